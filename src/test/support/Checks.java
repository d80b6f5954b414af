import java.util.ArrayList;
import java.util.LinkedHashMap;
import java.util.List;
import java.util.Map;
import java.util.NoSuchElementException;
import java.util.concurrent.Callable;

/**
 * What the test programs share: answers that are due, objects to start from, and all that an object tells.
 * No object may get more than 512 calls, as the document leaves free what later ones answer; so most checks
 * make objects of their own.
 */
abstract class Checks {
    static final Class<?> INDEX = IndexOutOfBoundsException.class;
    static final Class<?> VALUE = IllegalArgumentException.class;
    static final Class<?> REJECTED = UnsupportedOperationException.class;
    static final Class<?> NONE = NoSuchElementException.class;
    static final Class<?> STATE = IllegalStateException.class;
    static final Class<?> DIVISION = ArithmeticException.class;

    private static final int[] NEVER_AN_INDEX = {-1, 16, 17, Integer.MIN_VALUE, Integer.MAX_VALUE};

    /** The number of checks for each place of the document that was named. */
    static final Map<String, Integer> checks = new LinkedHashMap<>();
    private static String section = "";
    private static final List<String> places = new ArrayList<>();
    private static int wrong = 0;

    /** Makes an object in some state; each time the same. */
    interface Maker {
        DandelionBroadcast make();
    }

    interface Call {
        Object on(DandelionBroadcast x);
    }

    interface IndexCall {
        Object on(DandelionBroadcast x, int index);
    }

    interface Look {
        String at(DandelionBroadcast x);
    }

    static void section(String name) {
        section = name;
        places.clear();
        places.add(section);
    }

    static void promise(int number) {
        section("Promise " + number);
    }

    /** The checks that follow are for this sentence of the document, or for these if they say the same. */
    static void sentence(String... texts) {
        places.clear();
        for (String text : texts) {
            places.add(section + ": " + text);
            checks.putIfAbsent(section + ": " + text, 0);
        }
    }

    static void finishPromises(int first, int last) {
        List<String> sections = new ArrayList<>();
        for (int number = first; number <= last; number++) {
            sections.add("Promise " + number);
        }
        finish(sections);
    }

    static void fail(String text) {
        wrong++;
        System.out.println(text);
    }

    /** Each sentence of these sections must have been named, and have a check. */
    static void finish(List<String> sections) {
        Document.compare(checks.keySet(), sections);
        end();
    }

    static void end() {
        for (Map.Entry<String, Integer> entry : checks.entrySet()) {
            if (entry.getValue() == 0) {
                fail("no check for " + entry.getKey());
            }
        }
        System.out.println(wrong == 0 ? "all answers are as due, at " + checks.size() + " places of the document"
            : wrong + " answers are not as due");
        if (wrong != 0) {
            System.exit(1);
        }
    }

    /** The answer, or the class of the exception. */
    static Object answer(Callable<?> call) {
        try {
            return call.call();
        } catch (Exception e) {
            return e.getClass();
        }
    }

    static void due(Object want, Callable<?> call) {
        for (String place : places) {
            checks.merge(place, 1, Integer::sum);
        }
        Object got = answer(call);
        if (!want.equals(got)) {
            fail(places.get(0) + " (check " + checks.get(places.get(0)) + "): " + got + ", due is " + want);
        }
    }

    /** The call throws this, and changes nothing at all. */
    static void dueThrow(Class<?> want, Maker given, Call call) {
        dueLeave(want, given, given, call, Checks::now, Checks::rejection, Checks::hidden, Checks::past);
    }

    /** The call is rejected, for this reason and with this detail, and changes nothing else. */
    static void dueReject(int reason, int detail, Maker given, Call call) {
        dueLeave(REJECTED, given, given, call, Checks::now, Checks::hidden, Checks::past);
        DandelionBroadcast x = given.make();
        due(REJECTED, () -> call.on(x));
        due(reason + " " + detail + " " + NONE, () -> rejection(x));
    }

    /** The call answers this, and then an object looks like another one that was made with left. */
    static void dueLeave(Object want, Maker given, Maker left, Call call, Look... looks) {
        for (Look look : looks) {
            DandelionBroadcast x = given.make();
            DandelionBroadcast other = left.make();
            due(want, () -> call.on(x));
            due(look.at(other), () -> look.at(x));
        }
    }

    /** There is no such field for the call, in an object without fields, with some, and with all. */
    static void noSuchField(IndexCall call) {
        for (int index : NEVER_AN_INDEX) {
            dueThrow(INDEX, Checks::busy, x -> call.on(x, index));
        }
        due(INDEX, () -> call.on(new DandelionBroadcast(), 0));
        dueThrow(INDEX, () -> fields(1), x -> call.on(x, 1));
        dueThrow(INDEX, Checks::busy, x -> call.on(x, x.fieldCount()));
        dueThrow(INDEX, () -> full(16), x -> call.on(x, 9));
    }

    /** There is no such path for the call, in an object without paths, with some, and with all. */
    static void noSuchPath(IndexCall call) {
        for (int index : NEVER_AN_INDEX) {
            dueThrow(INDEX, Checks::busy, x -> call.on(x, index));
        }
        due(INDEX, () -> call.on(new DandelionBroadcast(), 0));
        dueThrow(INDEX, () -> fields(9), x -> call.on(x, 0));
        dueThrow(INDEX, Checks::busy, x -> call.on(x, x.pathCount()));
        dueThrow(INDEX, () -> full(16), x -> call.on(x, 16));
    }

    // ---- objects to start from

    /** Fields without shields. */
    static DandelionBroadcast fields(int count) {
        DandelionBroadcast x = new DandelionBroadcast();
        for (int field = 0; field < count; field++) {
            x.addField(0);
        }
        return x;
    }

    /** Fields in a line, with paths of the cost 1 and this gust. */
    static DandelionBroadcast line(int count, int gust) {
        DandelionBroadcast x = fields(count);
        for (int field = 1; field < count; field++) {
            x.addPath(field - 1, field, 1, gust);
        }
        return x;
    }

    /** Nine fields, and a path for each of the first pairs (0, 1), (0, 2) .. (1, 2) .. */
    static DandelionBroadcast full(int paths) {
        DandelionBroadcast x = fields(9);
        for (int first = 0; first < 9; first++) {
            for (int second = first + 1; second < 9 && x.pathCount() < paths; second++) {
                x.addPath(first, second, 1, 0);
            }
        }
        return x;
    }

    /** A ring 0-1-2-3 whose dearest path, of two of the same cost, is the one with the greater id; and 4-5. */
    static DandelionBroadcast ring() {
        DandelionBroadcast x = fields(6);
        x.addPath(1, 0, 5, 9);
        x.addPath(1, 2, 2, 3);
        x.addPath(3, 2, 1, 0);
        x.addPath(3, 0, 5, 4);
        x.addPath(4, 5, 7, 1);
        return x;
    }

    /** A line on which this was started from field 0. */
    static DandelionBroadcast sending(int count, int gust, int packets, boolean parity) {
        DandelionBroadcast x = line(count, gust);
        x.startBroadcast(0, packets, parity);
        return x;
    }

    /** A broadcast in the midst of which there is something of everything, so that each change would show. */
    static DandelionBroadcast busy() {
        DandelionBroadcast x = new DandelionBroadcast();
        x.addField(0);
        x.addField(3);
        x.addField(9);
        x.addField(1);
        x.saveSnapshot();
        x.addPath(0, 1, 2, 7);
        x.addPath(2, 1, 3, 9);
        x.addPath(3, 0, 1, 5);
        x.addPath(3, 1, 9, 9);
        answer(() -> run(x, "gusty"));
        answer(() -> x.addPath(1, 2, 1, 1));
        x.startBroadcast(0, 2, true);
        x.windUntilEnd();
        x.setBlocked(3, true);
        x.setSeed(5);
        x.startBroadcast(3, 4, true);
        x.setGust(2, 8);
        x.wind();
        x.setShield(1, 4);
        x.writeField(1);
        type(x, "seed 9;gust 1 4");
        return x;
    }

    // ---- the input and the output

    static void type(DandelionBroadcast x, String text) {
        for (int i = 0; i < text.length(); i++) {
            x.appendInput(text.charAt(i));
        }
    }

    static Object run(DandelionBroadcast x, String text) {
        type(x, text);
        return x.execute();
    }

    static String written(DandelionBroadcast x, int field) {
        int length = x.writeField(field);
        StringBuilder text = new StringBuilder();
        for (int i = 0; i < length; i++) {
            text.append(x.outputAt(i));
        }
        return text.toString();
    }

    static String output(DandelionBroadcast x) {
        StringBuilder text = new StringBuilder();
        for (int i = 0; answer(characterAt(x, i)) instanceof Character; i++) {
            text.append(x.outputAt(i));
        }
        return text.toString();
    }

    private static Callable<?> characterAt(DandelionBroadcast x, int index) {
        return () -> x.outputAt(index);
    }

    // ---- all that an object tells

    static String rejection(DandelionBroadcast x) {
        return answer(x::rejectionReason) + " " + answer(x::rejectionDetail) + " " + answer(x::causeReason);
    }

    /** What the calls that only look tell, but for the latest rejection. */
    static String now(DandelionBroadcast x) {
        return output(x) + " " + answer(x::syntaxErrorOffset) + " " + data(x);
    }

    /** All that undo and the snapshot cover and calls that only look tell. */
    static String data(DandelionBroadcast x) {
        List<Object> told = new ArrayList<>();
        int packets = 0;
        while (packets < 7 && x.fieldCount() > 0 && hasPacket(x, packets)) {
            packets++;
        }
        for (int field = 0; field < x.fieldCount(); field++) {
            told.add("field " + x.shieldOf(field) + heldBy(x, field, packets));
        }
        for (int path = 0; path < x.pathCount(); path++) {
            told.add("path " + x.firstOf(path) + "-" + x.secondOf(path) + " " + x.costOf(path) + x.gustOf(path)
                + x.isBlocked(path) + x.useOf(path));
        }
        told.add(totals(x));
        told.add(answer(x::source) + " " + answer(x::windsLeft) + " " + answer(x::energyLeft));
        return told.toString();
    }

    private static boolean hasPacket(DandelionBroadcast x, int packet) {
        return answer(() -> x.hasPacket(0, packet)) instanceof Boolean;
    }

    private static String heldBy(DandelionBroadcast x, int field, int packets) {
        StringBuilder text = new StringBuilder(" ");
        for (int packet = 0; packet < packets; packet++) {
            text.append(x.hasPacket(field, packet) ? '#' : '.');
        }
        return text.toString();
    }

    static String totals(DandelionBroadcast x) {
        return x.fieldCount() + " " + x.pathCount() + " " + x.groupCount() + " " + x.isBroadcasting() + " "
            + x.coveredCount() + " " + x.sentCount() + " " + x.lostCount() + " " + x.rebuiltCount() + " " + x.energy()
            + " " + x.finishedCount() + " " + x.failedCount();
    }

    /** What only changes tell: the seed, the input and the snapshot. The object is spent then. */
    static String hidden(DandelionBroadcast x) {
        String text = "seed " + x.setSeed(0) + ", blown " + answer(x::abort);
        text = text + ", started " + answer(() -> x.startBroadcast(0, 1, false));
        text = text + ", input " + answer(x::execute) + " " + x.setSeed(0);
        text = text + ", snapshot " + answer(x::restoreSnapshot) + " " + totals(x);
        return text + " " + x.setSeed(0);
    }

    /** The data ahead of each change that can be undone. The object is spent then. */
    static String past(DandelionBroadcast x) {
        StringBuilder text = new StringBuilder();
        for (Object left = answer(x::undo); left instanceof Integer; left = answer(x::undo)) {
            text.append(left).append(": ").append(totals(x)).append("; ");
        }
        return text + " seed " + x.setSeed(0);
    }

    static int seedOf(DandelionBroadcast x) {
        int seed = x.setSeed(0);
        x.undo();
        return seed;
    }

    // ---- draws

    static int nextSeed(int seed) {
        return (seed * 61 + 17) % 512;
    }

    /** A seed after which packets of this danger arrive ("#") and are lost (".") in this order. */
    static int seedFor(int danger, String fates) {
        for (int first = 0; first < 512; first++) {
            int seed = first;
            boolean fits = true;
            for (int i = 0; i < fates.length() && fits; i++) {
                seed = nextSeed(seed);
                fits = (seed % 10 >= danger) == (fates.charAt(i) == '#');
            }
            if (fits) {
                return first;
            }
        }
        throw new IllegalStateException("no seed for " + danger + " " + fates);
    }
}
