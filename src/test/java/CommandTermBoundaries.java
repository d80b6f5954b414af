import java.util.HashSet;
import java.util.List;
import java.util.Set;

/** A check of its own for each sentence of the terms on commands, and each sign tried at each place of a command. */
public final class CommandTermBoundaries extends Checks {
    /** Commands of each kind, with the shortest and the longest numbers; any digit stands for the others. */
    private static final String[] SAMPLES = {"field 0", "field 9", "path 0-9 1 5", "shield 3 9", "gust 0 9", "gust 01 9",
        "gust 015 0", "block 7", "block 16", "block 999", "open 0", "open 00", "open 000", "seed 1", "seed 51", "seed 511",
        "send 0 6", "send 0 6+", "wind", "finish", "abort"};

    /** All commands that there are, and all their beginnings, the empty one included. */
    private static final Set<String> COMMANDS = new HashSet<>();
    private static final Set<String> BEGINNINGS = new HashSet<>();

    public static void main(String[] args) {
        collectCommands();
        parts();
        addingCommands();
        settingCommands();
        pathCommands();
        sendCommands();
        plainCommands();
        numbers();
        offsets();
        signsAtEachPlace();
        finish(List.of("Commands"));
    }

    private static void collectCommands() {
        for (String a : digits()) {
            collect("field " + a);
            for (String b : digits()) {
                collect("shield " + a + " " + b);
                collect("send " + a + " " + b);
                collect("send " + a + " " + b + "+");
                for (String c : digits()) {
                    for (String d : digits()) {
                        collect("path " + a + "-" + b + " " + c + " " + d);
                    }
                }
            }
        }
        for (String number : allNumbers()) {
            collect("block " + number);
            collect("open " + number);
            collect("seed " + number);
            for (String digit : digits()) {
                collect("gust " + number + " " + digit);
            }
        }
        collect("wind");
        collect("finish");
        collect("abort");
    }

    private static void collect(String command) {
        COMMANDS.add(command);
        for (int length = 0; length <= command.length(); length++) {
            BEGINNINGS.add(command.substring(0, length));
        }
    }

    private static String[] digits() {
        return "0123456789".split("");
    }

    private static Set<String> allNumbers() {
        Set<String> numbers = new HashSet<>();
        for (String a : digits()) {
            numbers.add(a);
            for (String b : digits()) {
                numbers.add(a + b);
                for (String c : digits()) {
                    numbers.add(a + b + c);
                }
            }
        }
        return numbers;
    }

    /** The offset that the document's words give, or -1 if the text is an input without a syntax error. */
    private static int offsetOf(String text) {
        for (int length = 1; length <= text.length(); length++) {
            if (!canGoOn(text.substring(0, length))) {
                return length - 1;
            }
        }
        return COMMANDS.contains(lastPart(text)) ? -1 : text.length();
    }

    /** Whether some input begins like this; all shorter beginnings do. */
    private static boolean canGoOn(String text) {
        if (text.endsWith(";")) {
            return COMMANDS.contains(lastPart(text.substring(0, text.length() - 1)));
        }
        return BEGINNINGS.contains(lastPart(text));
    }

    private static String lastPart(String text) {
        return text.substring(text.lastIndexOf(';') + 1);
    }

    private static void dueOffset(int want, String text) {
        due(VALUE + " " + want, () -> {
            DandelionBroadcast x = new DandelionBroadcast();
            return answer(() -> run(x, text)) + " " + x.syntaxErrorOffset();
        });
    }

    private static void dueNoSyntaxError(String text) {
        due("false " + NONE, () -> {
            DandelionBroadcast x = new DandelionBroadcast();
            return answer(() -> run(x, text)).equals(VALUE) + " " + answer(x::syntaxErrorOffset);
        });
    }

    private static void dueAsInTheDocument(String text) {
        int offset = offsetOf(text);
        if (offset < 0) {
            dueNoSyntaxError(text);
        } else {
            dueOffset(offset, text);
        }
    }

    private static void parts() {
        section("Commands");
        sentence("The input has one or more commands, with \";\" between two of them.");
        dueOffset(0, "");
        dueOffset(0, ";");
        dueOffset(0, ";field 1");
        due(1, () -> run(new DandelionBroadcast(), "field 1"));
        due(2, () -> run(new DandelionBroadcast(), "field 1;field 1"));
        due(3, () -> run(new DandelionBroadcast(), "field 1;field 1;field 1"));
        dueOffset(8, "field 1;");
        dueOffset(8, "field 1;;field 1");
        dueOffset(7, "field 1,field 1");
        dueOffset(7, "field 1 ;field 1");
        dueOffset(8, "field 1; field 1");
        dueOffset(7, "field 1field 1");
        due(7, () -> run(new DandelionBroadcast(), "field 1;field 1;field 1;field 1;field 1;field 1;path 0-5 1 1"));
        due(12, () -> run(failing(), "wind;wind;wind;wind;wind;wind;wind;wind;wind;wind;wind;wind"));
        dueOffset(60, "wind;wind;wind;wind;wind;wind;wind;wind;wind;wind;wind;wind;");
        dueOffset(59, "wind;wind;wind;wind;wind;wind;wind;wind;wind;wind;wind;abor");
    }

    private static DandelionBroadcast failing() {
        return sending(9, 9, 6, false);
    }

    private static void addingCommands() {
        sentence("\"field \" and a digit adds a field with a shield.");
        for (int shield = 0; shield <= 9; shield++) {
            int digit = shield;
            due("1 1 " + digit, () -> {
                DandelionBroadcast x = new DandelionBroadcast();
                return run(x, "field " + digit) + " " + x.fieldCount() + " " + x.shieldOf(0);
            });
        }
        dueOffset(6, "field ");
        dueOffset(7, "field 10");
        dueOffset(6, "field -1");

        sentence("\"path \", a digit, \"-\", a digit, a space, a digit, a space and a digit adds a path between two fields "
            + "with a cost and a gust.");
        for (int cost = 1; cost <= 9; cost++) {
            for (int gust = 0; gust <= 9; gust++) {
                String costAndGust = cost + " " + gust;
                due("8-0 " + costAndGust, () -> {
                    DandelionBroadcast x = fields(9);
                    run(x, "path 8-0 " + costAndGust);
                    return x.firstOf(0) + "-" + x.secondOf(0) + " " + x.costOf(0) + " " + x.gustOf(0);
                });
            }
        }
        due(STATE, () -> run(fields(9), "path 0-1 0 1"));
        due(STATE, () -> run(fields(9), "path 0-9 1 1"));
        due(STATE, () -> run(fields(9), "path 4-4 1 1"));
        dueOffset(6, "path 10-1 1 1");
        dueOffset(8, "path 0-10 1 1");
        dueOffset(10, "path 0-1 10 1");
        dueOffset(12, "path 0-1 1 10");
        dueOffset(6, "path 0 1 1 1");
    }

    private static void settingCommands() {
        sentence("\"shield \", a digit, a space and a digit sets the shield of a field.");
        for (int field = 0; field <= 8; field++) {
            int index = field;
            due(9 - index, () -> {
                DandelionBroadcast x = fields(9);
                run(x, "shield " + index + " " + (9 - index));
                return x.shieldOf(index);
            });
        }
        due(STATE, () -> run(fields(9), "shield 9 0"));
        dueOffset(8, "shield 10 1");
        dueOffset(10, "shield 1 10");

        sentence("\"gust \", a number, a space and a digit sets the gust of a path.");
        for (int path = 0; path < 16; path++) {
            int id = path;
            due("9 0", () -> {
                DandelionBroadcast x = full(16);
                run(x, "gust " + id + " 9");
                return x.gustOf(id) + " " + x.gustOf(15 - id);
            });
        }
        due(STATE, () -> run(full(16), "gust 16 9"));
        dueOffset(8, "gust 1 10");

        sentence("\"seed \" and a number sets the seed.");
        for (int seed : new int[] {0, 1, 9, 10, 99, 100, 511}) {
            due(seed, () -> {
                DandelionBroadcast x = new DandelionBroadcast();
                run(x, "seed " + seed);
                return x.setSeed(0);
            });
        }
        due(STATE, () -> run(new DandelionBroadcast(), "seed 512"));
        due(STATE, () -> run(new DandelionBroadcast(), "seed 999"));
        dueOffset(8, "seed 0511");
    }

    private static void pathCommands() {
        sentence("\"block \" and a number blocks a path, and \"open \" and a number opens it.");
        for (int path = 0; path < 16; path++) {
            int id = path;
            due("true false", () -> {
                DandelionBroadcast x = full(16);
                run(x, "block " + id);
                boolean blocked = x.isBlocked(id);
                run(x, "open " + id);
                return blocked + " " + x.isBlocked(id);
            });
        }
        due(REJECTED, () -> run(full(16), "block 3;block 3"));
        due(REJECTED, () -> run(full(16), "open 3"));
        due(STATE, () -> run(full(16), "block 16"));
        due(STATE, () -> run(full(16), "open 16"));
        dueOffset(6, "block ");
        dueOffset(5, "open ");
    }

    private static void sendCommands() {
        sentence("\"send \", a digit, a space and a digit starts a broadcast from a source with a number of data packets; "
            + "a \"+\" behind it stands for a parity packet.");
        for (int packets = 1; packets <= 6; packets++) {
            int data = packets;
            due("8 " + data, () -> {
                DandelionBroadcast x = fields(9);
                run(x, "send 8 " + data);
                return x.source() + " " + x.packetsOf(8);
            });
            due("0 " + (data + 1), () -> {
                DandelionBroadcast x = fields(9);
                run(x, "send 0 " + data + "+");
                return x.source() + " " + x.packetsOf(0);
            });
        }
        due("1 2", () -> {
            DandelionBroadcast x = fields(1);
            run(x, "send 0 1;abort");
            int plain = x.packetsOf(0);
            run(x, "send 0 1+;abort");
            return plain + " " + x.packetsOf(0);
        });
        for (String text : new String[] {"send 0 0", "send 0 7", "send 0 0+", "send 0 9+", "send 9 1"}) {
            due(STATE, () -> run(fields(9), text));
        }
        dueOffset(9, "send 0 1++");
        dueOffset(8, "send 0 1 +");
        dueOffset(8, "send 0 1-");
        dueOffset(8, "send 0 11");
    }

    private static void plainCommands() {
        sentence("\"wind\" lets a wind blow, \"finish\" lets winds blow until the broadcast ends, and \"abort\" aborts it.");
        due("1 2", () -> {
            DandelionBroadcast x = failing();
            return run(x, "wind") + " " + run(x, "wind;wind");
        });
        due(3, () -> {
            DandelionBroadcast x = failing();
            run(x, "wind;wind;wind");
            return x.abort();
        });
        due("false 0 1", () -> {
            DandelionBroadcast x = failing();
            run(x, "wind;finish");
            return x.isBroadcasting() + " " + x.finishedCount() + " " + x.failedCount();
        });
        due("false 1 0", () -> {
            DandelionBroadcast x = sending(9, 0, 6, true);
            run(x, "finish");
            return x.isBroadcasting() + " " + x.finishedCount() + " " + x.failedCount();
        });
        due("false 0 0", () -> {
            DandelionBroadcast x = sending(9, 0, 6, true);
            run(x, "abort");
            return x.isBroadcasting() + " " + x.finishedCount() + " " + x.failedCount();
        });
        due(data(wound()), () -> {
            DandelionBroadcast x = failing();
            run(x, "wind;wind;wind;wind");
            return data(x);
        });
        dueOffset(4, "wind ");
        dueOffset(6, "finish1");
        dueOffset(5, "aborts");
    }

    private static DandelionBroadcast wound() {
        DandelionBroadcast x = failing();
        for (int winds = 0; winds < 4; winds++) {
            x.wind();
        }
        return x;
    }

    private static void numbers() {
        sentence("A number has one to three digits.");
        for (String text : new String[] {"7", "07", "007"}) {
            due(7, () -> {
                DandelionBroadcast x = new DandelionBroadcast();
                run(x, "seed " + text);
                return x.setSeed(0);
            });
            due(9, () -> {
                DandelionBroadcast x = full(16);
                run(x, "gust " + text + " 9;block " + text);
                return x.isBlocked(7) ? x.gustOf(7) : -1;
            });
        }
        for (String name : new String[] {"seed ", "block ", "open ", "gust "}) {
            dueOffset(name.length(), name);
            dueOffset(name.length(), name + ";");
            dueOffset(name.length(), name + " 1");
            dueOffset(name.length(), name + "-1");
            dueOffset(name.length() + 3, name + "1234");
            dueOffset(name.length() + 3, name + "0001");
            dueOffset(name.length() + 3, name + "999x");
        }
    }

    private static void offsets() {
        sentence("The offset of a syntax error is the index of the first character that cannot follow the characters "
            + "ahead of it in any input; it is the length of the input if the input ends too early.");
        dueOffset(0, "x");
        dueOffset(0, "Field 1");
        dueOffset(0, " wind");
        dueOffset(1, "f");
        dueOffset(1, "fe");
        dueOffset(2, "fi");
        dueOffset(2, "fix");
        dueOffset(3, "fie");
        dueOffset(3, "fin");
        dueOffset(3, "fied 1");
        dueOffset(3, "finld 1");
        dueOffset(1, "s");
        dueOffset(1, "sx");
        dueOffset(2, "se");
        dueOffset(2, "sex");
        dueOffset(3, "see");
        dueOffset(3, "sen");
        dueOffset(3, "sene 1");
        dueOffset(3, "seend");
        dueOffset(2, "shend 1 1");
        // An input has to end too early, or a character must not follow: what comes behind it plays no part.
        dueOffset(7, "seed 51x;field 12");
        dueOffset(8, "seed 51;1");
        dueOffset(15, "field 1;field 1x");
        dueOffset(59, "field 1;field 1;field 1;field 1;field 1;field 1;field 1;winx");
        dueNoSyntaxError("field 1;field 1;field 1;field 1;field 1;field 1;field 1;wind");
        for (String sample : SAMPLES) {
            for (int length = 0; length < sample.length(); length++) {
                String beginning = sample.substring(0, length);
                if (!COMMANDS.contains(beginning)) {
                    dueOffset(length, beginning);
                    dueOffset(5 + length, "wind;" + beginning);
                }
            }
        }
    }

    /** Each sign in the place of each sign of a command, and ahead of it. */
    private static void signsAtEachPlace() {
        for (String sample : SAMPLES) {
            for (int place = 0; place <= sample.length(); place++) {
                String head = sample.substring(0, place);
                for (char sign = 32; sign <= 126; sign++) {
                    dueAsInTheDocument(head + sign + sample.substring(place));
                    if (place < sample.length()) {
                        dueAsInTheDocument(head + sign + sample.substring(place + 1));
                        dueAsInTheDocument("open 15;" + head + sign + sample.substring(place + 1));
                    }
                }
            }
        }
    }
}
