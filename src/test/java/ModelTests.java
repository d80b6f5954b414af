import java.util.ArrayList;
import java.util.HashSet;
import java.util.LinkedHashMap;
import java.util.List;
import java.util.Map;
import java.util.NoSuchElementException;
import java.util.Set;
import java.util.concurrent.Callable;
import java.util.regex.Matcher;
import java.util.regex.Pattern;

/**
 * Long runs of calls that are drawn by a fixed rule. Each answer is compared with that of a model
 * which follows the document's words with sets, lists and regular expressions, so that both would
 * have to make the same mistake in two different ways.
 */
public final class ModelTests {
    private static final int RUNS = 1500;
    private static final int CALLS = 512;

    private static int wrong = 0;
    private static final Map<String, Integer> seen = new LinkedHashMap<>();

    public static void main(String[] args) {
        for (int run = 0; run < RUNS && wrong < 20; run++) {
            new Run(run).play();
        }
        requireVariety();
        System.out.println(wrong == 0 ? "the class agrees with the model" : wrong + " answers differ");
        if (wrong != 0) {
            System.exit(1);
        }
    }

    /** A comparison is worth little if the drawn calls hardly ever reach what they should test. */
    private static void requireVariety() {
        String[] wanted = {"reason 1", "reason 2", "reason 3", "reason 4", "reason 5", "reason 6", "reason 7",
            "cause 1", "cause 2", "cause 3", "cause 4", "cause 5", "cause 6", "undo ok", "undo IllegalStateException",
            "restoreSnapshot ok", "execute ok", "execute IllegalArgumentException", "execute IllegalStateException",
            "execute UnsupportedOperationException", "finished", "failed", "rebuilt", "appendInput IllegalStateException"};
        for (String name : wanted) {
            if (seen.getOrDefault(name, 0) < 5) {
                wrong++;
                System.out.println("seldom reached: " + name + " " + seen.get(name));
            }
        }
    }

    private static void count(String name) {
        seen.merge(name, 1, Integer::sum);
    }

    private static String answer(Callable<Object> call) {
        try {
            return String.valueOf(call.call());
        } catch (Exception e) {
            return e.getClass().getSimpleName();
        }
    }

    /** A run of calls on one object and on one model. */
    private static final class Run {
        private final int number;
        private long state;
        private int calls = 0;
        private final DandelionBroadcast x = new DandelionBroadcast();
        private final Model m = new Model();
        private final StringBuilder story = new StringBuilder();
        /** How willing the run is to give arguments that are wrong, in percent. */
        private final int wild;
        /** Whether most packets are lost, so that broadcasts fail. */
        private final boolean harsh;
        /** Whether it starts with as many fields and paths as there can be. */
        private final boolean full;

        Run(int number) {
            this.number = number;
            this.state = number * 7919L + 13;
            this.wild = number % 3 == 0 ? 20 : 4;
            this.harsh = number % 5 == 1;
            this.full = number % 4 == 2;
        }

        private int draw(int bound) {
            state = state * 6364136223846793005L + 1442695040888963407L;
            return (int) ((state >>> 33) % bound);
        }

        private int inRange(int low, int high) {
            if (draw(100) < wild) {
                int[] odd = {low - 1, high + 1, Integer.MIN_VALUE, Integer.MAX_VALUE, -1};
                return odd[draw(odd.length)];
            }
            return low + draw(high - low + 1);
        }

        private int field() {
            return inRange(0, Math.max(0, m.d.shields.size() - 1));
        }

        private int path() {
            return inRange(0, Math.max(0, m.d.paths.size() - 1));
        }

        private void same(String name, Callable<Object> real, Callable<Object> due) {
            if (calls >= CALLS) {
                return;
            }
            calls++;
            String got = answer(real);
            String want = answer(due);
            String bare = name.substring(0, name.indexOf('('));
            story.append(name).append(" -> ").append(want).append('\n');
            count(bare + " " + (want.endsWith("Exception") ? want : "ok"));
            if (!got.equals(want)) {
                wrong++;
                System.out.println("run " + number + ": " + name + " answered " + got + ", due is " + want);
                if (wrong == 1) {
                    System.out.println(story);
                }
            }
        }

        void play() {
            int fields = full || harsh ? 9 : draw(10);
            for (int i = 0; i < fields; i++) {
                addField();
            }
            int paths = full ? 40 : harsh ? 12 : draw(26);
            for (int i = 0; i < paths; i++) {
                addPath();
            }
            while (calls < CALLS && wrong < 20) {
                if (draw(100) < 45) {
                    change();
                } else {
                    look();
                }
            }
            count(m.d.finished > 0 ? "finished" : "nothing finished");
            count(m.d.failed > 0 ? "failed" : "nothing failed");
            count(m.d.rebuilt > 0 ? "rebuilt" : "nothing rebuilt");
        }

        private void addField() {
            int shield = inRange(0, harsh ? 1 : 9);
            same("addField(" + shield + ")", () -> x.addField(shield), () -> m.addField(shield));
        }

        private void addPath() {
            int a = field();
            int b = field();
            int cost = draw(2) == 0 ? inRange(1, 9) : inRange(1, 3);
            int gust = draw(2) == 0 ? inRange(harsh ? 9 : 0, 9) : inRange(harsh ? 8 : 6, 9);
            same("addPath(" + a + ", " + b + ", " + cost + ", " + gust + ")",
                () -> x.addPath(a, b, cost, gust), () -> m.addPath(a, b, cost, gust));
        }

        private void change() {
            int a = field();
            int p = path();
            int digit = inRange(0, 9);
            boolean flag = draw(2) == 0;
            switch (draw(16)) {
                case 0: addField(); break;
                case 1: addPath(); addPath(); break;
                case 2: same("setShield(" + a + ", " + digit + ")",
                    () -> x.setShield(a, digit), () -> m.setShield(a, digit)); break;
                case 3: same("setGust(" + p + ", " + digit + ")",
                    () -> x.setGust(p, digit), () -> m.setGust(p, digit)); break;
                case 4: case 5: same("setBlocked(" + p + ", " + flag + ")",
                    () -> x.setBlocked(p, flag), () -> m.setBlocked(p, flag)); break;
                case 6: {
                    int seed = inRange(0, 511);
                    same("setSeed(" + seed + ")", () -> x.setSeed(seed), () -> m.setSeed(seed));
                    break;
                }
                case 7: case 8: {
                    int packets = inRange(1, 6);
                    same("startBroadcast(" + a + ", " + packets + ", " + flag + ")",
                        () -> x.startBroadcast(a, packets, flag), () -> m.startBroadcast(a, packets, flag));
                    break;
                }
                case 9: case 10: same("wind()", x::wind, m::wind); break;
                case 11: same("windUntilEnd()", x::windUntilEnd, m::windUntilEnd); lookAtTotals(); break;
                case 12: if (draw(3) == 0) { same("abort()", x::abort, m::abort); } break;
                case 13: undoOften(); break;
                case 14: snapshot(); break;
                default: command(); break;
            }
        }

        private void undoOften() {
            int times = draw(4) == 0 ? 10 : draw(4);
            for (int i = 0; i < times; i++) {
                same("undo()", x::undo, m::undo);
            }
        }

        private void snapshot() {
            if (draw(3) != 0) {
                same("saveSnapshot()", x::saveSnapshot, m::saveSnapshot);
            } else {
                same("restoreSnapshot()", x::restoreSnapshot, m::restoreSnapshot);
            }
        }

        private void command() {
            StringBuilder text = new StringBuilder();
            int commands = 1 + draw(draw(4) == 0 ? 8 : 3);
            for (int i = 0; i < commands; i++) {
                text.append(i == 0 ? "" : ";").append(oneCommand());
            }
            if (draw(4) == 0) {
                spoil(text);
            }
            for (int i = 0; i < text.length(); i++) {
                char sign = text.charAt(i);
                same("appendInput('" + sign + "')", () -> x.appendInput(sign), () -> m.appendInput(sign));
            }
            same("execute()", x::execute, m::execute);
            same("syntaxErrorOffset()", x::syntaxErrorOffset, m::syntaxErrorOffset);
            reasons();
        }

        private int digit(int bound) {
            return draw(100) < wild ? draw(10) : draw(Math.max(1, Math.min(bound, 10)));
        }

        private String oneCommand() {
            int fields = m.d.shields.size();
            int paths = m.d.paths.size();
            String number = String.valueOf(draw(100) < wild ? draw(1000) : draw(Math.max(1, paths)));
            String padded = draw(5) == 0 && number.length() < 3 ? "0" + number : number;
            switch (draw(11)) {
                case 0: return "field " + draw(10);
                case 1: return "path " + digit(fields) + "-" + digit(fields) + " " + (1 + draw(9)) + " " + draw(10);
                case 2: return "shield " + digit(fields) + " " + draw(10);
                case 3: return "gust " + padded + " " + draw(10);
                case 4: return "block " + padded;
                case 5: return "open " + padded;
                case 6: return "seed " + draw(draw(4) == 0 ? 1000 : 512);
                case 7: return "send " + digit(fields) + " " + (draw(100) < wild ? draw(10) : 1 + draw(6))
                    + (draw(2) == 0 ? "+" : "");
                case 8: return "wind";
                case 9: return "finish";
                default: return "abort";
            }
        }

        private void spoil(StringBuilder text) {
            int at = draw(text.length() + 1);
            char sign = "0123456789 ;-+abdefghilnopstuwx".charAt(draw(31));
            if (at == text.length() || draw(3) == 0) {
                text.insert(at, sign);
            } else if (draw(2) == 0) {
                text.setCharAt(at, sign);
            } else {
                text.setLength(at);
            }
        }

        private void reasons() {
            same("rejectionReason()", x::rejectionReason, m::rejectionReason);
            same("rejectionDetail()", x::rejectionDetail, m::rejectionDetail);
            same("causeReason()", x::causeReason, m::causeReason);
            count("reason " + m.reason);
            count("cause " + m.cause);
        }

        private void look() {
            switch (draw(5)) {
                case 0: lookAtParts(); break;
                case 1: lookAtWays(); break;
                case 2: lookAtBroadcast(); break;
                case 3: lookAtTotals(); break;
                default: lookAtText(); break;
            }
        }

        private void lookAtParts() {
            int a = field();
            int p = path();
            same("fieldCount()", x::fieldCount, () -> m.d.shields.size());
            same("pathCount()", x::pathCount, () -> m.d.paths.size());
            same("shieldOf(" + a + ")", () -> x.shieldOf(a), () -> m.d.shields.get(m.checkField(a)));
            same("firstOf(" + p + ")", () -> x.firstOf(p), () -> m.pathAt(p)[0]);
            same("secondOf(" + p + ")", () -> x.secondOf(p), () -> m.pathAt(p)[1]);
            same("costOf(" + p + ")", () -> x.costOf(p), () -> m.pathAt(p)[2]);
            same("gustOf(" + p + ")", () -> x.gustOf(p), () -> m.pathAt(p)[3]);
            same("isBlocked(" + p + ")", () -> x.isBlocked(p), () -> m.pathAt(p)[4] == 1);
            same("useOf(" + p + ")", () -> x.useOf(p), () -> m.pathAt(p)[5]);
        }

        private void lookAtWays() {
            int a = field();
            int b = field();
            int p = path();
            String pair = "(" + a + ", " + b + ")";
            same("groupCount()", x::groupCount, () -> m.d.groups(-1));
            same("isConnected" + pair, () -> x.isConnected(a, b), () -> m.isConnected(a, b));
            same("wayCost" + pair, () -> x.wayCost(a, b), () -> m.wayCost(a, b));
            same("wayCostByRounds" + pair, () -> x.wayCostByRounds(a, b), () -> m.wayCost(a, b));
            same("disjointWays" + pair, () -> x.disjointWays(a, b), () -> m.smallestCut(a, b));
            same("smallestCut" + pair, () -> x.smallestCut(a, b), () -> m.smallestCut(a, b));
            same("isBridge(" + p + ")", () -> x.isBridge(p), () -> m.isBridge(p));
            same("bridgeCount()", x::bridgeCount, m::bridgeCount);
            same("bridgeCountByBlocking()", x::bridgeCountByBlocking, m::bridgeCount);
            same("treeCost(" + a + ")", () -> x.treeCost(a), () -> m.treeCost(a));
            same("treeCostByGrowing(" + a + ")", () -> x.treeCostByGrowing(a), () -> m.treeCost(a));
            same("isInTree(" + a + ", " + p + ")", () -> x.isInTree(a, p), () -> m.isInTree(a, p));
            same("parentIn" + pair, () -> x.parentIn(a, b), () -> m.parentIn(a, b));
            same("reachChance" + pair, () -> x.reachChance(a, b), () -> m.reachChance(a, b));
        }

        private void lookAtBroadcast() {
            int a = field();
            int packet = inRange(0, 6);
            same("isBroadcasting()", x::isBroadcasting, () -> m.d.running);
            same("source()", x::source, m::source);
            same("hasPacket(" + a + ", " + packet + ")", () -> x.hasPacket(a, packet), () -> m.hasPacket(a, packet));
            same("packetsOf(" + a + ")", () -> x.packetsOf(a), () -> m.d.held.get(m.checkField(a)).size());
            same("isCovered(" + a + ")", () -> x.isCovered(a), () -> m.isCovered(a));
            same("coveredCount()", x::coveredCount, m::coveredCount);
            boolean windsFirst = draw(2) == 0;
            if (windsFirst) {
                same("windsLeft()", x::windsLeft, () -> m.forecast()[0]);
            }
            same("energyLeft()", x::energyLeft, () -> m.forecast()[1]);
            if (!windsFirst) {
                same("windsLeft()", x::windsLeft, () -> m.forecast()[0]);
            }
        }

        private void lookAtTotals() {
            int position = draw(2) == 0 ? field() : path();
            same("sentCount()", x::sentCount, () -> m.d.sent);
            same("lostCount()", x::lostCount, () -> m.d.lost);
            same("rebuiltCount()", x::rebuiltCount, () -> m.d.rebuilt);
            same("energy()", x::energy, () -> m.d.energy());
            same("finishedCount()", x::finishedCount, () -> m.d.finished);
            same("failedCount()", x::failedCount, () -> m.d.failed);
            same("fieldByPackets(" + position + ")", () -> x.fieldByPackets(position), () -> m.fieldByPackets(position));
            same("pathByUse(" + position + ")", () -> x.pathByUse(position), () -> m.pathByUse(position));
            same("meanEnergy()", x::meanEnergy, m::meanEnergy);
            same("lossShare()", x::lossShare, m::lossShare);
            same("lossBits()", x::lossBits, () -> Float.floatToIntBits(m.lossShare()));
            same("isConsistent()", x::isConsistent, () -> true);
        }

        private void lookAtText() {
            int a = field();
            same("writeField(" + a + ")", () -> x.writeField(a), () -> m.writeField(a));
            int end = m.output.length();
            for (int i = -1; i <= end; i++) {
                int index = i;
                same("outputAt(" + i + ")", () -> x.outputAt(index), () -> m.outputAt(index));
            }
            reasons();
        }
    }

    /** All that undo and the snapshot cover. */
    private static final class Data {
        final List<Integer> shields = new ArrayList<>();
        /** Each one: first, second, cost, gust, 1 if blocked, use. */
        final List<int[]> paths = new ArrayList<>();
        final List<Set<Integer>> held = new ArrayList<>();
        int seed = 0;
        int started = 0;
        boolean running = false;
        int origin = -1;
        int packets = 0;
        boolean parity = false;
        int blown = 0;
        int sent = 0;
        int lost = 0;
        int rebuilt = 0;
        int finished = 0;
        int failed = 0;

        Data copy() {
            Data c = new Data();
            c.shields.addAll(shields);
            for (int[] path : paths) {
                c.paths.add(path.clone());
            }
            for (Set<Integer> packetsOfField : held) {
                c.held.add(new HashSet<>(packetsOfField));
            }
            c.seed = seed;
            c.started = started;
            c.running = running;
            c.origin = origin;
            c.packets = packets;
            c.parity = parity;
            c.blown = blown;
            c.sent = sent;
            c.lost = lost;
            c.rebuilt = rebuilt;
            c.finished = finished;
            c.failed = failed;
            return c;
        }

        int energy() {
            return paths.stream().mapToInt(p -> p[2] * p[5]).sum();
        }

        int blocked() {
            return (int) paths.stream().filter(p -> p[4] == 1).count();
        }

        int all() {
            return packets + (parity ? 1 : 0);
        }

        /** The fields that are connected by these paths. */
        Set<Integer> reach(int start, List<Integer> by) {
            Set<Integer> reached = new HashSet<>(Set.of(start));
            boolean grows = true;
            while (grows) {
                grows = false;
                for (int id : by) {
                    int[] p = paths.get(id);
                    if (reached.contains(p[0])) {
                        grows |= reached.add(p[1]);
                    }
                    if (reached.contains(p[1])) {
                        grows |= reached.add(p[0]);
                    }
                }
            }
            return reached;
        }

        List<Integer> open(int without) {
            List<Integer> ids = new ArrayList<>();
            for (int id = 0; id < paths.size(); id++) {
                if (paths.get(id)[4] == 0 && id != without) {
                    ids.add(id);
                }
            }
            return ids;
        }

        int groups(int without) {
            Set<Set<Integer>> groups = new HashSet<>();
            for (int field = 0; field < shields.size(); field++) {
                groups.add(reach(field, open(without)));
            }
            return groups.size();
        }

        List<Integer> tree(int root) {
            Set<Integer> group = reach(root, open(-1));
            List<Integer> ids = open(-1);
            ids.removeIf(id -> !group.contains(paths.get(id)[0]));
            ids.sort((a, b) -> paths.get(a)[2] != paths.get(b)[2] ? paths.get(a)[2] - paths.get(b)[2] : a - b);
            List<Integer> taken = new ArrayList<>();
            for (int id : ids) {
                if (!reach(paths.get(id)[0], taken).contains(paths.get(id)[1])) {
                    taken.add(id);
                }
            }
            return taken;
        }

        /** The ids of the paths of the tree from the root to a field. */
        List<Integer> line(int root, int field) {
            List<Integer> ids = tree(root);
            for (int id : List.copyOf(ids)) {
                List<Integer> fewer = new ArrayList<>(ids);
                fewer.remove((Integer) id);
                if (reach(root, fewer).contains(field)) {
                    ids.remove((Integer) id);
                }
            }
            List<Integer> line = new ArrayList<>();
            int at = root;
            while (at != field) {
                for (int id : ids) {
                    int[] p = paths.get(id);
                    if (!line.contains(id) && (p[0] == at || p[1] == at)) {
                        line.add(id);
                        at = p[0] + p[1] - at;
                        break;
                    }
                }
            }
            return line;
        }

        int danger(int id, int field) {
            return Math.max(paths.get(id)[3] - shields.get(field), 0);
        }

        boolean covered(int field) {
            for (int packet = 0; packet < packets; packet++) {
                if (!held.get(field).contains(packet)) {
                    return false;
                }
            }
            return true;
        }

        int blow() {
            List<Integer> group = new ArrayList<>(reach(origin, open(-1)));
            Map<Integer, List<Integer>> lines = new LinkedHashMap<>();
            for (int field : group) {
                lines.put(field, line(origin, field));
            }
            group.sort((a, b) -> lines.get(a).size() != lines.get(b).size()
                ? lines.get(a).size() - lines.get(b).size() : a - b);
            int arrived = 0;
            for (int field : group.subList(1, group.size())) {
                List<Integer> line = lines.get(field);
                arrived += send(line.get(line.size() - 1), field);
            }
            if (parity) {
                for (int field : group) {
                    if (held.get(field).size() == all() - 1) {
                        rebuilt++;
                        for (int packet = 0; packet < all(); packet++) {
                            held.get(field).add(packet);
                        }
                    }
                }
            }
            blown++;
            if (group.stream().allMatch(this::covered)) {
                running = false;
                finished++;
            } else if (blown == 30) {
                running = false;
                failed++;
            }
            return arrived;
        }

        private int send(int id, int field) {
            int[] p = paths.get(id);
            int parent = p[0] + p[1] - field;
            int arrived = 0;
            for (int packet = 0; packet < all(); packet++) {
                if (held.get(parent).contains(packet) && !held.get(field).contains(packet)) {
                    p[5]++;
                    sent++;
                    seed = (seed * 61 + 17) % 512;
                    if (seed % 10 < danger(id, field)) {
                        lost++;
                    } else {
                        held.get(field).add(packet);
                        arrived++;
                    }
                }
            }
            return arrived;
        }
    }

    private static final class Model {
        private static final Pattern COMMANDS;

        static {
            String one = "(field \\d|path \\d-\\d \\d \\d|shield \\d \\d|gust \\d{1,3} \\d|block \\d{1,3}|open \\d{1,3}"
                + "|seed \\d{1,3}|send \\d \\d\\+?|wind|finish|abort)";
            COMMANDS = Pattern.compile(one + "(;" + one + ")*");
        }

        Data d = new Data();
        Data snapshot = null;
        final List<Data> past = new ArrayList<>();
        String input = "";
        String output = "";
        int reason = 0;
        int detail = 0;
        int cause = 0;
        int offset = -1;
        private boolean inCommand = false;

        int checkField(int field) {
            if (field < 0 || field >= d.shields.size()) {
                throw new IndexOutOfBoundsException();
            }
            return field;
        }

        int[] pathAt(int path) {
            if (path < 0 || path >= d.paths.size()) {
                throw new IndexOutOfBoundsException();
            }
            return d.paths.get(path);
        }

        private static void check(int value, int low, int high) {
            if (value < low || value > high) {
                throw new IllegalArgumentException();
            }
        }

        private UnsupportedOperationException reject(int why, int number) {
            if (inCommand) {
                cause = why;
            } else {
                reason = why;
                detail = number;
                cause = 0;
            }
            return new UnsupportedOperationException();
        }

        private void changing() {
            if (!inCommand) {
                remember(d.copy());
            }
        }

        private void remember(Data before) {
            past.add(before);
            if (past.size() > 8) {
                past.remove(0);
            }
        }

        int addField(int shield) {
            check(shield, 0, 9);
            if (d.shields.size() == 9) {
                throw reject(1, 9);
            }
            changing();
            d.shields.add(shield);
            d.held.add(new HashSet<>());
            return d.shields.size() - 1;
        }

        int setShield(int field, int shield) {
            checkField(field);
            check(shield, 0, 9);
            changing();
            return d.shields.set(field, shield);
        }

        int addPath(int first, int second, int cost, int gust) {
            checkField(first);
            checkField(second);
            check(first == second ? 0 : 1, 1, 1);
            check(cost, 1, 9);
            check(gust, 0, 9);
            if (d.paths.size() == 16) {
                throw reject(2, 16 - d.blocked());
            }
            for (int id = 0; id < d.paths.size(); id++) {
                int[] p = d.paths.get(id);
                if (Set.of(p[0], p[1]).equals(Set.of(first, second))) {
                    throw reject(3, id);
                }
            }
            changing();
            d.paths.add(new int[] {first, second, cost, gust, 0, 0});
            return d.paths.size() - 1;
        }

        int setGust(int path, int gust) {
            pathAt(path);
            check(gust, 0, 9);
            changing();
            int previous = pathAt(path)[3];
            pathAt(path)[3] = gust;
            return previous;
        }

        int setBlocked(int path, boolean blocked) {
            int mark = blocked ? 1 : 0;
            if (pathAt(path)[4] == mark) {
                throw reject(4, d.blocked());
            }
            changing();
            pathAt(path)[4] = mark;
            return d.blocked();
        }

        boolean isConnected(int first, int second) {
            checkField(first);
            checkField(second);
            return d.reach(first, d.open(-1)).contains(second);
        }

        int wayCost(int first, int second) {
            checkField(first);
            checkField(second);
            int cost = cheapest(first, second, new HashSet<>());
            if (cost == Integer.MAX_VALUE) {
                throw new NoSuchElementException();
            }
            return cost;
        }

        private int cheapest(int from, int to, Set<Integer> used) {
            if (from == to) {
                return 0;
            }
            int best = Integer.MAX_VALUE;
            used.add(from);
            for (int id : d.open(-1)) {
                int[] p = d.paths.get(id);
                if (p[0] == from || p[1] == from) {
                    int next = p[0] + p[1] - from;
                    int rest = used.contains(next) ? Integer.MAX_VALUE : cheapest(next, to, used);
                    if (rest != Integer.MAX_VALUE) {
                        best = Math.min(best, rest + p[2]);
                    }
                }
            }
            used.remove(from);
            return best;
        }

        int smallestCut(int first, int second) {
            checkField(first);
            checkField(second);
            check(first == second ? 0 : 1, 1, 1);
            int size = 0;
            while (!canPart(first, second, d.open(-1), 0, size)) {
                size++;
            }
            return size;
        }

        private boolean canPart(int first, int second, List<Integer> open, int from, int size) {
            if (!d.reach(first, open).contains(second)) {
                return true;
            }
            for (int i = from; size > 0 && i < open.size(); i++) {
                List<Integer> fewer = new ArrayList<>(open);
                fewer.remove(i);
                if (canPart(first, second, fewer, i, size - 1)) {
                    return true;
                }
            }
            return false;
        }

        boolean isBridge(int path) {
            int[] p = pathAt(path);
            return p[4] == 0 && !d.reach(p[0], d.open(path)).contains(p[1]);
        }

        int bridgeCount() {
            int count = 0;
            for (int id = 0; id < d.paths.size(); id++) {
                count += isBridge(id) ? 1 : 0;
            }
            return count;
        }

        int treeCost(int field) {
            return d.tree(checkField(field)).stream().mapToInt(id -> d.paths.get(id)[2]).sum();
        }

        boolean isInTree(int field, int path) {
            checkField(field);
            pathAt(path);
            return d.tree(field).contains(path);
        }

        int parentIn(int source, int field) {
            if (!isConnected(source, field) || source == field) {
                throw new NoSuchElementException();
            }
            List<Integer> line = d.line(source, field);
            int[] last = d.paths.get(line.get(line.size() - 1));
            return last[0] + last[1] - field;
        }

        float reachChance(int source, int field) {
            if (!isConnected(source, field)) {
                throw new NoSuchElementException();
            }
            if (source == field) {
                return 1.0f;
            }
            List<Integer> line = d.line(source, field);
            float chance = (float) (10 - d.danger(line.get(line.size() - 1), field)) / 10.0f;
            return reachChance(source, parentIn(source, field)) * chance;
        }

        int setSeed(int seed) {
            check(seed, 0, 511);
            changing();
            int previous = d.seed;
            d.seed = seed;
            return previous;
        }

        int startBroadcast(int source, int packets, boolean parity) {
            checkField(source);
            check(packets, 1, 6);
            if (d.running) {
                throw reject(5, d.blown);
            }
            changing();
            d.running = true;
            d.origin = source;
            d.packets = packets;
            d.parity = parity;
            d.blown = 0;
            for (Set<Integer> packetsOfField : d.held) {
                packetsOfField.clear();
            }
            for (int packet = 0; packet < d.all(); packet++) {
                d.held.get(source).add(packet);
            }
            return ++d.started;
        }

        private void checkRunning() {
            if (!d.running) {
                throw reject(6, d.started);
            }
        }

        int wind() {
            checkRunning();
            changing();
            return d.blow();
        }

        int windUntilEnd() {
            checkRunning();
            changing();
            int winds = 0;
            while (d.running) {
                d.blow();
                winds++;
            }
            return winds;
        }

        int abort() {
            checkRunning();
            changing();
            d.running = false;
            return d.blown;
        }

        int source() {
            checkStarted();
            return d.origin;
        }

        private void checkStarted() {
            if (d.started == 0) {
                throw new NoSuchElementException();
            }
        }

        boolean hasPacket(int field, int packet) {
            checkField(field);
            checkStarted();
            if (packet < 0 || packet >= d.all()) {
                throw new NoSuchElementException();
            }
            return d.held.get(field).contains(packet);
        }

        boolean isCovered(int field) {
            checkField(field);
            checkStarted();
            return d.covered(field);
        }

        int coveredCount() {
            int count = 0;
            for (int field = 0; d.started > 0 && field < d.shields.size(); field++) {
                count += d.covered(field) ? 1 : 0;
            }
            return count;
        }

        int[] forecast() {
            if (!d.running) {
                throw new NoSuchElementException();
            }
            Data later = d.copy();
            int winds = 0;
            while (later.running) {
                later.blow();
                winds++;
            }
            return new int[] {winds, later.energy() - d.energy()};
        }

        int fieldByPackets(int position) {
            List<int[]> rows = new ArrayList<>();
            for (int field = 0; field < d.shields.size(); field++) {
                rows.add(new int[] {-d.held.get(field).size(), -d.shields.get(field), field});
            }
            return placed(rows, position);
        }

        int pathByUse(int position) {
            List<int[]> rows = new ArrayList<>();
            for (int id = 0; id < d.paths.size(); id++) {
                rows.add(new int[] {-d.paths.get(id)[5], d.paths.get(id)[2], id});
            }
            return placed(rows, position);
        }

        private static int placed(List<int[]> rows, int position) {
            if (position < 0 || position >= rows.size()) {
                throw new NoSuchElementException();
            }
            rows.sort(java.util.Arrays::compare);
            return rows.get(position)[2];
        }

        double meanEnergy() {
            if (d.sent == 0) {
                throw new ArithmeticException();
            }
            return (double) d.energy() / d.sent;
        }

        float lossShare() {
            if (d.sent == 0) {
                throw new ArithmeticException();
            }
            return (float) d.lost / (float) d.sent;
        }

        int writeField(int field) {
            checkField(field);
            String text = field + "s" + d.shields.get(field) + ":";
            for (int packet = 0; packet < d.all(); packet++) {
                text += d.held.get(field).contains(packet) ? "#" : ".";
            }
            output = text + (d.started > 0 && d.covered(field) ? "!" : "");
            return output.length();
        }

        char outputAt(int index) {
            if (index < 0 || index >= output.length()) {
                throw new IndexOutOfBoundsException();
            }
            return output.charAt(index);
        }

        int appendInput(char sign) {
            check(sign, 32, 126);
            if (input.length() == 60) {
                throw new IllegalStateException();
            }
            input += sign;
            return input.length();
        }

        int execute() {
            String text = input;
            input = "";
            if (!COMMANDS.matcher(text).matches()) {
                offset = firstMisfit(text);
                throw new IllegalArgumentException();
            }
            Data before = d.copy();
            String[] parts = text.split(";");
            int earlierCause = cause;
            inCommand = true;
            for (int i = 0; i < parts.length; i++) {
                try {
                    perform(parts[i].split("[ -]"), parts[i].endsWith("+"));
                } catch (UnsupportedOperationException e) {
                    d = before;
                    inCommand = false;
                    reason = 7;
                    detail = i;
                    throw e;
                } catch (IndexOutOfBoundsException | IllegalArgumentException e) {
                    d = before;
                    inCommand = false;
                    cause = earlierCause;
                    throw new IllegalStateException();
                }
            }
            inCommand = false;
            remember(before);
            return parts.length;
        }

        private static int firstMisfit(String text) {
            int end = 0;
            while (end < text.length() && canGoOn(text.substring(0, end + 1))) {
                end++;
            }
            return end;
        }

        private static boolean canGoOn(String start) {
            Matcher matcher = COMMANDS.matcher(start);
            return matcher.matches() || matcher.hitEnd();
        }

        private void perform(String[] words, boolean plus) {
            int[] n = new int[5];
            for (int i = 1; i < words.length; i++) {
                n[i] = Integer.parseInt(words[i].replace("+", ""));
            }
            switch (words[0]) {
                case "field": addField(n[1]); break;
                case "path": addPath(n[1], n[2], n[3], n[4]); break;
                case "shield": setShield(n[1], n[2]); break;
                case "gust": setGust(n[1], n[2]); break;
                case "block": setBlocked(n[1], true); break;
                case "open": setBlocked(n[1], false); break;
                case "seed": setSeed(n[1]); break;
                case "send": startBroadcast(n[1], n[2], plus); break;
                case "wind": wind(); break;
                case "finish": windUntilEnd(); break;
                default: abort(); break;
            }
        }

        int syntaxErrorOffset() {
            if (offset < 0) {
                throw new NoSuchElementException();
            }
            return offset;
        }

        int rejectionReason() {
            checkRejected();
            return reason;
        }

        int rejectionDetail() {
            checkRejected();
            return detail;
        }

        private void checkRejected() {
            if (reason == 0) {
                throw new NoSuchElementException();
            }
        }

        int causeReason() {
            if (reason != 7) {
                throw new NoSuchElementException();
            }
            return cause;
        }

        int undo() {
            if (past.isEmpty()) {
                throw new IllegalStateException();
            }
            d = past.remove(past.size() - 1);
            return past.size();
        }

        int saveSnapshot() {
            snapshot = d.copy();
            return d.shields.size();
        }

        int restoreSnapshot() {
            if (snapshot == null) {
                throw new IllegalStateException();
            }
            d = snapshot.copy();
            past.clear();
            return d.shields.size();
        }
    }
}
