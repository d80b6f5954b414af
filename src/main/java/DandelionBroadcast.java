import java.util.NoSuchElementException;

/**
 * A broadcast of packets over fields that are connected by paths. What each call promises stands in
 * the project's document; a call that throws leaves the data as they were.
 */
public final class DandelionBroadcast {
    public static final int FIELD_LIMIT = 1;
    public static final int PATH_LIMIT = 2;
    public static final int SAME_PATH = 3;
    public static final int NO_CHANGE = 4;
    public static final int BROADCASTING = 5;
    public static final int NO_BROADCAST = 6;
    public static final int COMMAND_REJECTED = 7;

    private static final int MOST_FIELDS = 9;
    private static final int MOST_PATHS = 16;
    private static final int GREATEST_DIGIT = 9;
    private static final int MOST_DATA = 6;
    private static final int MOST_PACKETS = 7;
    private static final int MOST_WINDS = 30;
    private static final int MOST_CHANGES = 8;
    private static final int SEEDS = 512;
    private static final int FIRST_SIGN = 32;
    private static final int LAST_SIGN = 126;
    private static final int MOST_INPUT = 60;
    /** The shortest command has four characters and, but for the last one, a ";" behind it. */
    private static final int MOST_COMMANDS = 12;
    private static final int MOST_VALUES = 4;
    private static final int MOST_DIGITS = 3;
    /** An index, four signs around it, seven packets. */
    private static final int MOST_OUTPUT = 12;

    private static final int NONE = -1;
    /** More than any way can cost. */
    private static final int FAR = 1000;

    // How a change can go wrong; what a change answers is never negative.
    private static final int NO_SUCH_INDEX = -1;
    private static final int WRONG_VALUE = -2;
    private static final int REJECTED = -3;

    private final State now = new State();
    private final State foreseen = new State();
    private final State snapshot = new State();
    private final History history = new History();
    private final Ways ways = new Ways();
    private final SpreadTree tree = new SpreadTree();
    private final Winds winds = new Winds();
    private final Changer changer = new Changer();
    private final Commands commands = new Commands();
    private final char[] output = new char[MOST_OUTPUT];
    private int outputLength = 0;
    private boolean snapshotSaved = false;
    private int latestReason = NONE;
    private int latestDetail = 0;
    private int latestCause = NONE;
    private int latestSyntaxError = NONE;

    public DandelionBroadcast() {
    }

    // ---- fields and paths

    public int addField(int shield) throws IllegalArgumentException, UnsupportedOperationException {
        history.note(now);
        return settle(changer.appendField(now, shield));
    }

    public int setShield(int field, int shield) throws IndexOutOfBoundsException, IllegalArgumentException {
        history.note(now);
        return settle(changer.replaceShield(now, field, shield));
    }

    public int addPath(int first, int second, int cost, int gust)
            throws IndexOutOfBoundsException, IllegalArgumentException, UnsupportedOperationException {
        history.note(now);
        return settle(changer.appendPath(now, first, second, cost, gust));
    }

    public int setGust(int path, int gust) throws IndexOutOfBoundsException, IllegalArgumentException {
        history.note(now);
        return settle(changer.replaceGust(now, path, gust));
    }

    public int setBlocked(int path, boolean blocked)
            throws IndexOutOfBoundsException, UnsupportedOperationException {
        history.note(now);
        return settle(changer.replaceBlocked(now, path, blocked));
    }

    public int fieldCount() {
        return now.net.fieldTotal;
    }

    public int pathCount() {
        return now.net.pathTotal;
    }

    public int shieldOf(int field) throws IndexOutOfBoundsException {
        requireField(field);
        return now.net.shields[field];
    }

    public int firstOf(int path) throws IndexOutOfBoundsException {
        requirePath(path);
        return now.net.firsts[path];
    }

    public int secondOf(int path) throws IndexOutOfBoundsException {
        requirePath(path);
        return now.net.seconds[path];
    }

    public int costOf(int path) throws IndexOutOfBoundsException {
        requirePath(path);
        return now.net.costs[path];
    }

    public int gustOf(int path) throws IndexOutOfBoundsException {
        requirePath(path);
        return now.net.gusts[path];
    }

    public boolean isBlocked(int path) throws IndexOutOfBoundsException {
        requirePath(path);
        return !now.net.isOpen(path);
    }

    // ---- ways

    public int groupCount() {
        return ways.countGroups(now.net, NONE);
    }

    public boolean isConnected(int first, int second) throws IndexOutOfBoundsException {
        requireField(first);
        requireField(second);
        return hasBit(ways.groupAround(now.net, first, NONE), second);
    }

    public int wayCost(int first, int second) throws IndexOutOfBoundsException, NoSuchElementException {
        requireField(first);
        requireField(second);
        return requireWay(ways.cheapestByVisiting(now.net, first, second));
    }

    public int wayCostByRounds(int first, int second) throws IndexOutOfBoundsException, NoSuchElementException {
        requireField(first);
        requireField(second);
        return requireWay(ways.cheapestByLowering(now.net, first, second));
    }

    public int disjointWays(int first, int second) throws IndexOutOfBoundsException, IllegalArgumentException {
        requireTwoFields(first, second);
        return ways.mostDisjoint(now.net, first, second);
    }

    public int smallestCut(int first, int second) throws IndexOutOfBoundsException, IllegalArgumentException {
        requireTwoFields(first, second);
        return ways.fewestLeaving(now.net, first, second);
    }

    public boolean isBridge(int path) throws IndexOutOfBoundsException {
        requirePath(path);
        return ways.partsGroups(now.net, path);
    }

    public int bridgeCount() {
        return ways.countBridgesByWalk(now.net);
    }

    public int bridgeCountByBlocking() {
        return ways.countBridgesByGroups(now.net);
    }

    // ---- spread trees

    public int treeCost(int field) throws IndexOutOfBoundsException {
        requireField(field);
        return tree.costInOrder(now.net, field);
    }

    public int treeCostByGrowing(int field) throws IndexOutOfBoundsException {
        requireField(field);
        return tree.costGrown(now.net, field);
    }

    public boolean isInTree(int field, int path) throws IndexOutOfBoundsException {
        requireField(field);
        requirePath(path);
        return hasBit(tree.chooseInOrder(now.net, field), path);
    }

    public int parentIn(int source, int field) throws IndexOutOfBoundsException, NoSuchElementException {
        requireField(source);
        requireField(field);
        tree.grow(now.net, source);
        if (tree.parents[field] == NONE) {
            throw new NoSuchElementException("the field has no parent in this tree");
        }
        return tree.parents[field];
    }

    public float reachChance(int source, int field) throws IndexOutOfBoundsException, NoSuchElementException {
        requireField(source);
        requireField(field);
        tree.grow(now.net, source);
        if (tree.depths[field] == NONE) {
            throw new NoSuchElementException("the field is not in this tree");
        }
        return tree.chances[field];
    }

    // ---- broadcasts

    public int setSeed(int seed) throws IllegalArgumentException {
        history.note(now);
        return settle(changer.replaceSeed(now, seed));
    }

    public int startBroadcast(int source, int packets, boolean parity)
            throws IndexOutOfBoundsException, IllegalArgumentException, UnsupportedOperationException {
        history.note(now);
        return settle(changer.beginBroadcast(now, source, packets, parity));
    }

    public int wind() throws UnsupportedOperationException {
        history.note(now);
        return settle(changer.letBlowOnce(now, winds));
    }

    public int windUntilEnd() throws UnsupportedOperationException {
        history.note(now);
        return settle(changer.letBlowToEnd(now, winds));
    }

    public int abort() throws UnsupportedOperationException {
        history.note(now);
        return settle(changer.stopBroadcast(now));
    }

    public boolean isBroadcasting() {
        return now.cast.running;
    }

    public int source() throws NoSuchElementException {
        requireStarted();
        return now.cast.origin;
    }

    public boolean hasPacket(int field, int packet) throws IndexOutOfBoundsException, NoSuchElementException {
        requireField(field);
        requireStarted();
        if (packet < 0 || packet >= now.cast.packetTotal()) {
            throw new NoSuchElementException("the broadcast has no such packet");
        }
        return hasBit(now.cast.held[field], packet);
    }

    public int packetsOf(int field) throws IndexOutOfBoundsException {
        requireField(field);
        return Integer.bitCount(now.cast.held[field]);
    }

    public boolean isCovered(int field) throws IndexOutOfBoundsException, NoSuchElementException {
        requireField(field);
        requireStarted();
        return now.cast.covers(field);
    }

    public int coveredCount() {
        int covered = 0;
        for (int field = 0; field < now.net.fieldTotal; field++) {
            if (now.cast.covers(field)) {
                covered++;
            }
        }
        return covered;
    }

    public int windsLeft() throws NoSuchElementException {
        requireRunning();
        foreseen.copyFrom(now);
        return changer.letBlowToEnd(foreseen, winds);
    }

    public int energyLeft() throws NoSuchElementException {
        requireRunning();
        foreseen.copyFrom(now);
        changer.letBlowToEnd(foreseen, winds);
        return foreseen.spent - now.spent;
    }

    // ---- totals and orders

    public int sentCount() {
        return now.sent;
    }

    public int lostCount() {
        return now.lost;
    }

    public int rebuiltCount() {
        return now.rebuilt;
    }

    public int energy() {
        return now.spent;
    }

    public int finishedCount() {
        return now.finished;
    }

    public int failedCount() {
        return now.failed;
    }

    public int useOf(int path) throws IndexOutOfBoundsException {
        requirePath(path);
        return now.uses[path];
    }

    public int fieldByPackets(int position) throws NoSuchElementException {
        for (int field = 0; field < now.net.fieldTotal; field++) {
            if (now.fieldsAheadOf(field) == position) {
                return field;
            }
        }
        throw new NoSuchElementException("no such position");
    }

    public int pathByUse(int position) throws NoSuchElementException {
        for (int path = 0; path < now.net.pathTotal; path++) {
            if (now.pathsAheadOf(path) == position) {
                return path;
            }
        }
        throw new NoSuchElementException("no such position");
    }

    public double meanEnergy() throws ArithmeticException {
        requireSent();
        return (double) now.spent / (double) now.sent;
    }

    public float lossShare() throws ArithmeticException {
        requireSent();
        return (float) now.lost / (float) now.sent;
    }

    public int lossBits() throws ArithmeticException {
        requireSent();
        return bitsOfShare((float) now.lost / (float) now.sent);
    }

    public boolean isConsistent() {
        return treeCostsAgree()
                && waysAgreeWithCuts()
                && ways.countBridgesByWalk(now.net) == ways.countBridgesByGroups(now.net)
                && now.totalsAgree();
    }

    // ---- text output

    public int writeField(int field) throws IndexOutOfBoundsException {
        requireField(field);
        outputLength = 0;
        put((char) ('0' + field));
        put('s');
        put((char) ('0' + now.net.shields[field]));
        put(':');
        for (int packet = 0; packet < now.cast.packetTotal(); packet++) {
            put(hasBit(now.cast.held[field], packet) ? '#' : '.');
        }
        if (now.cast.covers(field)) {
            put('!');
        }
        return outputLength;
    }

    public char outputAt(int index) throws IndexOutOfBoundsException {
        if (index < 0 || index >= outputLength) {
            throw new IndexOutOfBoundsException("no character at this index");
        }
        return output[index];
    }

    // ---- commands

    public int appendInput(char character) throws IllegalArgumentException, IllegalStateException {
        if (character < FIRST_SIGN || character > LAST_SIGN) {
            throw new IllegalArgumentException("the code is out of range");
        }
        if (commands.length >= MOST_INPUT) {
            throw new IllegalStateException("the input is full");
        }
        commands.append(character);
        return commands.length;
    }

    public int execute() throws IllegalArgumentException, IllegalStateException, UnsupportedOperationException {
        int error = commands.read();
        if (error != NONE) {
            latestSyntaxError = error;
            throw new IllegalArgumentException("a syntax error");
        }
        history.note(now);
        int done = 0;
        int outcome = 0;
        while (done < commands.total && outcome >= 0) {
            outcome = perform(commands.kinds[done], commands.values[done]);
            done++;
        }
        if (outcome < 0) {
            now.copyFrom(history.noted());
        }
        if (outcome == REJECTED) {
            noteRejection(COMMAND_REJECTED, done - 1, changer.reason);
            throw new UnsupportedOperationException("a command is rejected");
        }
        if (outcome < 0) {
            throw new IllegalStateException("a command fails");
        }
        history.keep();
        return done;
    }

    public int syntaxErrorOffset() throws NoSuchElementException {
        if (latestSyntaxError == NONE) {
            throw new NoSuchElementException("there was no syntax error");
        }
        return latestSyntaxError;
    }

    // ---- rejections and history

    public int rejectionReason() throws NoSuchElementException {
        requireRejection();
        return latestReason;
    }

    public int rejectionDetail() throws NoSuchElementException {
        requireRejection();
        return latestDetail;
    }

    public int causeReason() throws NoSuchElementException {
        if (latestReason != COMMAND_REJECTED) {
            throw new NoSuchElementException("the latest rejection has no cause");
        }
        return latestCause;
    }

    public int undo() throws IllegalStateException {
        if (history.kept == 0) {
            throw new IllegalStateException("no change can be undone");
        }
        history.stepBack(now);
        return history.kept;
    }

    public int saveSnapshot() {
        snapshot.copyFrom(now);
        snapshotSaved = true;
        return now.net.fieldTotal;
    }

    public int restoreSnapshot() throws IllegalStateException {
        if (!snapshotSaved) {
            throw new IllegalStateException("there is no snapshot");
        }
        now.copyFrom(snapshot);
        history.forget();
        return now.net.fieldTotal;
    }

    // ---- what the calls above share

    private void requireField(int field) {
        if (!now.net.hasField(field)) {
            throw new IndexOutOfBoundsException("no such field");
        }
    }

    private void requirePath(int path) {
        if (!now.net.hasPath(path)) {
            throw new IndexOutOfBoundsException("no such path");
        }
    }

    private void requireTwoFields(int first, int second) {
        requireField(first);
        requireField(second);
        if (first == second) {
            throw new IllegalArgumentException("both fields are the same");
        }
    }

    private void requireStarted() {
        if (now.cast.started == 0) {
            throw new NoSuchElementException("no broadcast was started");
        }
    }

    private void requireRunning() {
        if (!now.cast.running) {
            throw new NoSuchElementException("there is no broadcast that has not ended");
        }
    }

    private void requireSent() {
        if (now.sent == 0) {
            throw new ArithmeticException("no packet was sent");
        }
    }

    private void requireRejection() {
        if (latestReason == NONE) {
            throw new NoSuchElementException("no call was rejected");
        }
    }

    private static int requireWay(int cost) {
        if (cost >= FAR) {
            throw new NoSuchElementException("there is no way");
        }
        return cost;
    }

    /** Ends a change that was tried after the data had been noted in the history. */
    private int settle(int outcome) {
        if (outcome == NO_SUCH_INDEX) {
            throw new IndexOutOfBoundsException("no such field or path");
        }
        if (outcome == WRONG_VALUE) {
            throw new IllegalArgumentException("a value is out of range");
        }
        if (outcome == REJECTED) {
            noteRejection(changer.reason, changer.detail, NONE);
            throw new UnsupportedOperationException("the call is rejected");
        }
        history.keep();
        return outcome;
    }

    private void noteRejection(int reason, int detail, int cause) {
        latestReason = reason;
        latestDetail = detail;
        latestCause = cause;
    }

    private int perform(Kind kind, int[] values) {
        if (kind == null || values == null || values.length < MOST_VALUES) {
            return WRONG_VALUE;
        }
        switch (kind) {
            case FIELD:
                return changer.appendField(now, values[0]);
            case PATH:
                return changer.appendPath(now, values[0], values[1], values[2], values[3]);
            case SHIELD:
                return changer.replaceShield(now, values[0], values[1]);
            case GUST:
                return changer.replaceGust(now, values[0], values[1]);
            case BLOCK:
                return changer.replaceBlocked(now, values[0], true);
            case OPEN:
                return changer.replaceBlocked(now, values[0], false);
            case SEED:
                return changer.replaceSeed(now, values[0]);
            case SEND:
                return changer.beginBroadcast(now, values[0], values[1], values[2] == 1);
            case WIND:
                return changer.letBlowOnce(now, winds);
            case FINISH:
                return changer.letBlowToEnd(now, winds);
            case ABORT:
                return changer.stopBroadcast(now);
            default:
                return WRONG_VALUE;
        }
    }

    private void put(char sign) {
        if (outputLength < MOST_OUTPUT) {
            output[outputLength] = sign;
            outputLength++;
        }
    }

    private boolean treeCostsAgree() {
        for (int field = 0; field < now.net.fieldTotal; field++) {
            if (tree.costInOrder(now.net, field) != tree.costGrown(now.net, field)) {
                return false;
            }
        }
        return true;
    }

    private boolean waysAgreeWithCuts() {
        for (int first = 0; first < now.net.fieldTotal; first++) {
            for (int second = first + 1; second < now.net.fieldTotal; second++) {
                if (ways.mostDisjoint(now.net, first, second) != ways.fewestLeaving(now.net, first, second)) {
                    return false;
                }
            }
        }
        return true;
    }

    private static boolean hasBit(int bits, int index) {
        return (bits >> index & 1) == 1;
    }

    /** The bits of a float from 0 to 1: doubling is exact, and so is what is left behind the leading one. */
    private static int bitsOfShare(float share) {
        float scaled = share;
        for (int exponent = 127; exponent > 0; exponent--) {
            if (scaled >= 1.0f) {
                return (exponent << 23) + (int) ((scaled - 1.0f) * 8388608.0f);
            }
            scaled = scaled * 2.0f;
        }
        return 0;
    }

    /** The fields and the paths. */
    private static final class Net {
        final int[] shields = new int[MOST_FIELDS];
        final int[] firsts = new int[MOST_PATHS];
        final int[] seconds = new int[MOST_PATHS];
        final int[] costs = new int[MOST_PATHS];
        final int[] gusts = new int[MOST_PATHS];
        /** A bit for each path. */
        int closed = 0;
        int fieldTotal = 0;
        int pathTotal = 0;

        boolean hasField(int field) {
            return field >= 0 && field < fieldTotal;
        }

        boolean hasPath(int path) {
            return path >= 0 && path < pathTotal;
        }

        boolean isOpen(int path) {
            return path >= 0 && path < pathTotal && (closed >> path & 1) == 0;
        }

        int closedTotal() {
            return Integer.bitCount(closed);
        }

        /** Answers a bit for each of the two fields of a path. */
        int endsOf(int path) {
            return 1 << firsts[path] | 1 << seconds[path];
        }

        /** Answers the field to which a path leads from a field, or NONE if there is no such path there. */
        int farEnd(int path, int field) {
            if (!hasPath(path)) {
                return NONE;
            }
            if (firsts[path] == field) {
                return seconds[path];
            }
            return seconds[path] == field ? firsts[path] : NONE;
        }

        int pathBetween(int one, int other) {
            int ends = 1 << one | 1 << other;
            for (int path = 0; path < pathTotal; path++) {
                if (endsOf(path) == ends) {
                    return path;
                }
            }
            return NONE;
        }

        int dangerOf(int path, int field) {
            return gusts[path] > shields[field] ? gusts[path] - shields[field] : 0;
        }

        void copyFrom(Net other) {
            System.arraycopy(other.shields, 0, shields, 0, MOST_FIELDS);
            System.arraycopy(other.firsts, 0, firsts, 0, MOST_PATHS);
            System.arraycopy(other.seconds, 0, seconds, 0, MOST_PATHS);
            System.arraycopy(other.costs, 0, costs, 0, MOST_PATHS);
            System.arraycopy(other.gusts, 0, gusts, 0, MOST_PATHS);
            closed = other.closed;
            fieldTotal = other.fieldTotal;
            pathTotal = other.pathTotal;
        }
    }

    /** The latest broadcast, and the seed of the draws. */
    private static final class Cast {
        /** For each field a bit for each packet that it has. */
        final int[] held = new int[MOST_FIELDS];
        int started = 0;
        boolean running = false;
        int origin = NONE;
        int data = 0;
        boolean parity = false;
        int blown = 0;
        int seed = 0;

        int packetTotal() {
            return parity ? data + 1 : data;
        }

        int allPackets() {
            return (1 << packetTotal()) - 1;
        }

        boolean covers(int field) {
            int wanted = (1 << data) - 1;
            return started > 0 && (held[field] & wanted) == wanted;
        }

        void copyFrom(Cast other) {
            System.arraycopy(other.held, 0, held, 0, MOST_FIELDS);
            started = other.started;
            running = other.running;
            origin = other.origin;
            data = other.data;
            parity = other.parity;
            blown = other.blown;
            seed = other.seed;
        }
    }

    /** All that undo and the snapshot cover. */
    private static final class State {
        final Net net = new Net();
        final Cast cast = new Cast();
        final int[] uses = new int[MOST_PATHS];
        int sent = 0;
        int lost = 0;
        int rebuilt = 0;
        int spent = 0;
        int finished = 0;
        int failed = 0;

        int fieldsAheadOf(int field) {
            int ahead = 0;
            for (int other = 0; other < net.fieldTotal; other++) {
                if (other != field && fieldIsAhead(other, field)) {
                    ahead++;
                }
            }
            return ahead;
        }

        private boolean fieldIsAhead(int one, int other) {
            int packets = Integer.bitCount(cast.held[one]);
            int otherPackets = Integer.bitCount(cast.held[other]);
            if (packets != otherPackets) {
                return packets > otherPackets;
            }
            if (net.shields[one] != net.shields[other]) {
                return net.shields[one] > net.shields[other];
            }
            return one < other;
        }

        int pathsAheadOf(int path) {
            int ahead = 0;
            for (int other = 0; other < net.pathTotal; other++) {
                if (other != path && pathIsAhead(other, path)) {
                    ahead++;
                }
            }
            return ahead;
        }

        private boolean pathIsAhead(int one, int other) {
            if (uses[one] != uses[other]) {
                return uses[one] > uses[other];
            }
            if (net.costs[one] != net.costs[other]) {
                return net.costs[one] < net.costs[other];
            }
            return one < other;
        }

        boolean totalsAgree() {
            int usesTogether = 0;
            int costsTogether = 0;
            for (int path = 0; path < net.pathTotal; path++) {
                usesTogether += uses[path];
                costsTogether += uses[path] * net.costs[path];
            }
            return usesTogether == sent && costsTogether == spent;
        }

        void copyFrom(State other) {
            net.copyFrom(other.net);
            cast.copyFrom(other.cast);
            System.arraycopy(other.uses, 0, uses, 0, MOST_PATHS);
            sent = other.sent;
            lost = other.lost;
            rebuilt = other.rebuilt;
            spent = other.spent;
            finished = other.finished;
            failed = other.failed;
        }
    }

    /** Groups, cheapest ways, disjoint ways, cuts and bridges; its rows are used again by each call. */
    private static final class Ways {
        /** Each step of a walk takes up a path at a field or leaves a field. */
        private static final int MOST_STEPS = MOST_FIELDS * (MOST_PATHS + 1);

        private final int[] costs = new int[MOST_FIELDS];
        /** 1 if a way uses the path from its first field to its second one, -1 if the other way round. */
        private final int[] flows = new int[MOST_PATHS];
        private final int[] arrivals = new int[MOST_FIELDS];
        private final int[] numbers = new int[MOST_FIELDS];
        private final int[] earliest = new int[MOST_FIELDS];
        private final int[] nextPaths = new int[MOST_FIELDS];
        private int numbered = 0;

        /** Answers a bit for each field of the group, as if one path were blocked. */
        int groupAround(Net net, int field, int skipped) {
            int reached = 1 << field;
            for (int round = 1; round < net.fieldTotal; round++) {
                for (int path = 0; path < net.pathTotal; path++) {
                    int ends = net.endsOf(path);
                    if (path != skipped && net.isOpen(path) && (reached & ends) != 0) {
                        reached |= ends;
                    }
                }
            }
            return reached;
        }

        int countGroups(Net net, int skipped) {
            int seen = 0;
            int groups = 0;
            for (int field = 0; field < net.fieldTotal; field++) {
                if (!hasBit(seen, field)) {
                    seen |= groupAround(net, field, skipped);
                    groups++;
                }
            }
            return groups;
        }

        /** Answers FAR if there is no way. */
        int cheapestByVisiting(Net net, int from, int to) {
            startCosts(from);
            int visited = 0;
            for (int visits = 0; visits < net.fieldTotal; visits++) {
                int nearest = nearestOutside(net, visited);
                if (nearest != NONE) {
                    visited |= 1 << nearest;
                    lowerAround(net, nearest);
                }
            }
            return costs[to];
        }

        private void startCosts(int from) {
            for (int field = 0; field < MOST_FIELDS; field++) {
                costs[field] = field == from ? 0 : FAR;
            }
        }

        private int nearestOutside(Net net, int visited) {
            int nearest = NONE;
            int least = FAR;
            for (int field = 0; field < net.fieldTotal; field++) {
                if (!hasBit(visited, field) && costs[field] < least) {
                    nearest = field;
                    least = costs[field];
                }
            }
            return nearest;
        }

        private void lowerAround(Net net, int field) {
            for (int path = 0; path < net.pathTotal; path++) {
                int next = net.isOpen(path) ? net.farEnd(path, field) : NONE;
                if (next != NONE) {
                    costs[next] = Math.min(costs[next], costs[field] + net.costs[path]);
                }
            }
        }

        /** Answers FAR if there is no way. */
        int cheapestByLowering(Net net, int from, int to) {
            startCosts(from);
            for (int round = 1; round < net.fieldTotal; round++) {
                for (int path = 0; path < net.pathTotal; path++) {
                    if (net.isOpen(path)) {
                        int first = net.firsts[path];
                        int second = net.seconds[path];
                        costs[second] = Math.min(costs[second], costs[first] + net.costs[path]);
                        costs[first] = Math.min(costs[first], costs[second] + net.costs[path]);
                    }
                }
            }
            return costs[to];
        }

        int mostDisjoint(Net net, int from, int to) {
            for (int path = 0; path < MOST_PATHS; path++) {
                flows[path] = 0;
            }
            int found = 0;
            while (found < MOST_PATHS && addWay(net, from, to)) {
                found++;
            }
            return found;
        }

        private boolean addWay(Net net, int from, int to) {
            if (!hasBit(reachByFlows(net, from), to)) {
                return false;
            }
            int field = to;
            for (int step = 0; step < net.fieldTotal && field != from; step++) {
                int path = arrivals[field];
                boolean forward = net.seconds[path] == field;
                flows[path] += forward ? 1 : -1;
                field = forward ? net.firsts[path] : net.seconds[path];
            }
            return true;
        }

        /** A path that a way uses already can only be taken against it: that turns the way back there. */
        private int reachByFlows(Net net, int from) {
            int reached = 1 << from;
            for (int round = 1; round < net.fieldTotal; round++) {
                for (int path = 0; path < net.pathTotal; path++) {
                    if (net.isOpen(path)) {
                        int first = net.firsts[path];
                        int second = net.seconds[path];
                        if (hasBit(reached, first) && !hasBit(reached, second) && flows[path] < 1) {
                            reached |= 1 << second;
                            arrivals[second] = path;
                        } else if (hasBit(reached, second) && !hasBit(reached, first) && flows[path] > -1) {
                            reached |= 1 << first;
                            arrivals[first] = path;
                        }
                    }
                }
            }
            return reached;
        }

        int fewestLeaving(Net net, int from, int to) {
            int fewest = MOST_PATHS;
            int sets = 1 << net.fieldTotal;
            for (int set = 0; set < sets; set++) {
                if (hasBit(set, from) && !hasBit(set, to)) {
                    fewest = Math.min(fewest, countLeaving(net, set));
                }
            }
            return fewest;
        }

        private static int countLeaving(Net net, int set) {
            int leaving = 0;
            for (int path = 0; path < net.pathTotal; path++) {
                if (net.isOpen(path) && hasBit(set, net.firsts[path]) != hasBit(set, net.seconds[path])) {
                    leaving++;
                }
            }
            return leaving;
        }

        boolean partsGroups(Net net, int path) {
            return net.isOpen(path) && countGroups(net, path) > countGroups(net, NONE);
        }

        int countBridgesByGroups(Net net) {
            int bridges = 0;
            for (int path = 0; path < net.pathTotal; path++) {
                if (partsGroups(net, path)) {
                    bridges++;
                }
            }
            return bridges;
        }

        int countBridgesByWalk(Net net) {
            for (int field = 0; field < MOST_FIELDS; field++) {
                numbers[field] = NONE;
            }
            numbered = 0;
            int bridges = 0;
            for (int field = 0; field < net.fieldTotal; field++) {
                if (numbers[field] == NONE) {
                    bridges += countBridgesFrom(net, field);
                }
            }
            return bridges;
        }

        private int countBridgesFrom(Net net, int start) {
            int bridges = 0;
            int field = start;
            enter(start, NONE);
            for (int step = 0; step < MOST_STEPS; step++) {
                if (nextPaths[field] < net.pathTotal) {
                    field = takePath(net, field);
                    continue;
                }
                int back = net.farEnd(arrivals[field], field);
                if (back == NONE) {
                    return bridges;
                }
                if (earliest[field] > numbers[back]) {
                    bridges++;
                }
                earliest[back] = Math.min(earliest[back], earliest[field]);
                field = back;
            }
            return bridges;
        }

        private void enter(int field, int path) {
            numbers[field] = numbered;
            earliest[field] = numbered;
            arrivals[field] = path;
            nextPaths[field] = 0;
            numbered++;
        }

        /** Answers the field where the walk goes on. */
        private int takePath(Net net, int field) {
            int path = nextPaths[field];
            nextPaths[field]++;
            int next = net.isOpen(path) && path != arrivals[field] ? net.farEnd(path, field) : NONE;
            if (next == NONE) {
                return field;
            }
            if (numbers[next] == NONE) {
                enter(next, path);
                return next;
            }
            earliest[field] = Math.min(earliest[field], numbers[next]);
            return field;
        }
    }

    /** The spread tree of a field; its rows are used again by each call. */
    private static final class SpreadTree {
        final int[] parents = new int[MOST_FIELDS];
        final int[] pathsUp = new int[MOST_FIELDS];
        /** NONE for a field outside the tree. */
        final int[] depths = new int[MOST_FIELDS];
        final float[] chances = new float[MOST_FIELDS];
        private final int[] labels = new int[MOST_FIELDS];

        void grow(Net net, int root) {
            for (int field = 0; field < MOST_FIELDS; field++) {
                parents[field] = NONE;
                pathsUp[field] = NONE;
                depths[field] = field == root ? 0 : NONE;
                chances[field] = field == root ? 1.0f : 0.0f;
            }
            for (int reached = 1; reached < net.fieldTotal; reached++) {
                int path = firstPathOut(net);
                if (path != NONE) {
                    attach(net, path);
                }
            }
        }

        private int firstPathOut(Net net) {
            int best = NONE;
            for (int path = 0; path < net.pathTotal; path++) {
                boolean leadsOut = (depths[net.firsts[path]] == NONE) != (depths[net.seconds[path]] == NONE);
                if (net.isOpen(path) && leadsOut && (best == NONE || net.costs[path] < net.costs[best])) {
                    best = path;
                }
            }
            return best;
        }

        private void attach(Net net, int path) {
            boolean forward = depths[net.seconds[path]] == NONE;
            int parent = forward ? net.firsts[path] : net.seconds[path];
            int field = forward ? net.seconds[path] : net.firsts[path];
            parents[field] = parent;
            pathsUp[field] = path;
            depths[field] = depths[parent] + 1;
            chances[field] = chances[parent] * ((float) (10 - net.dangerOf(path, field)) / 10.0f);
        }

        int costGrown(Net net, int root) {
            grow(net, root);
            int sum = 0;
            for (int field = 0; field < net.fieldTotal; field++) {
                if (pathsUp[field] != NONE) {
                    sum += net.costs[pathsUp[field]];
                }
            }
            return sum;
        }

        /** Answers a bit for each path of the tree. */
        int chooseInOrder(Net net, int root) {
            for (int field = 0; field < MOST_FIELDS; field++) {
                labels[field] = field;
            }
            int chosen = 0;
            for (int cost = 1; cost <= GREATEST_DIGIT; cost++) {
                for (int path = 0; path < net.pathTotal; path++) {
                    if (net.costs[path] == cost && net.isOpen(path) && joinLabels(net, path)) {
                        chosen |= 1 << path;
                    }
                }
            }
            return onlyAround(net, root, chosen);
        }

        private boolean joinLabels(Net net, int path) {
            int kept = labels[net.firsts[path]];
            int replaced = labels[net.seconds[path]];
            for (int field = 0; field < net.fieldTotal; field++) {
                if (labels[field] == replaced) {
                    labels[field] = kept;
                }
            }
            return kept != replaced;
        }

        private int onlyAround(Net net, int root, int chosen) {
            int around = 0;
            for (int path = 0; path < net.pathTotal; path++) {
                if (hasBit(chosen, path) && labels[net.firsts[path]] == labels[root]) {
                    around |= 1 << path;
                }
            }
            return around;
        }

        int costInOrder(Net net, int root) {
            int chosen = chooseInOrder(net, root);
            int sum = 0;
            for (int path = 0; path < net.pathTotal; path++) {
                if (hasBit(chosen, path)) {
                    sum += net.costs[path];
                }
            }
            return sum;
        }
    }

    /** The winds of a broadcast that has not ended. */
    private static final class Winds {
        private final SpreadTree tree = new SpreadTree();

        /** Answers the number of packets that arrive. */
        int blowOnce(State state) {
            tree.grow(state.net, state.cast.origin);
            int arrived = 0;
            for (int depth = 1; depth < state.net.fieldTotal; depth++) {
                for (int field = 0; field < state.net.fieldTotal; field++) {
                    if (tree.depths[field] == depth && tree.parents[field] != NONE) {
                        arrived += sendDown(state, field);
                    }
                }
            }
            if (state.cast.parity) {
                rebuildMissing(state);
            }
            state.cast.blown++;
            endIfDue(state);
            return arrived;
        }

        private int sendDown(State state, int field) {
            int[] held = state.cast.held;
            int missing = held[tree.parents[field]] & ~held[field];
            int arrived = 0;
            for (int packet = 0; packet < MOST_PACKETS; packet++) {
                if (hasBit(missing, packet) && arrives(state, field)) {
                    held[field] |= 1 << packet;
                    arrived++;
                }
            }
            return arrived;
        }

        private boolean arrives(State state, int field) {
            int path = tree.pathsUp[field];
            state.uses[path]++;
            state.sent++;
            state.spent += state.net.costs[path];
            state.cast.seed = (state.cast.seed * 61 + 17) % SEEDS;
            if (state.cast.seed % 10 < state.net.dangerOf(path, field)) {
                state.lost++;
                return false;
            }
            return true;
        }

        private void rebuildMissing(State state) {
            int all = state.cast.allPackets();
            for (int field = 0; field < state.net.fieldTotal; field++) {
                int missing = all & ~state.cast.held[field];
                if (tree.depths[field] != NONE && Integer.bitCount(missing) == 1) {
                    state.cast.held[field] = all;
                    state.rebuilt++;
                }
            }
        }

        private void endIfDue(State state) {
            if (coversTree(state)) {
                state.cast.running = false;
                state.finished++;
            } else if (state.cast.blown >= MOST_WINDS) {
                state.cast.running = false;
                state.failed++;
            }
        }

        private boolean coversTree(State state) {
            for (int field = 0; field < state.net.fieldTotal; field++) {
                if (tree.depths[field] != NONE && !state.cast.covers(field)) {
                    return false;
                }
            }
            return true;
        }
    }

    /**
     * The changes. Each one answers what its call returns, or how it went wrong, and then has changed
     * nothing; so execute can tell a failing command without an exception.
     */
    private static final class Changer {
        int reason = NONE;
        int detail = 0;

        private int reject(int why, int number) {
            reason = why;
            detail = number;
            return REJECTED;
        }

        private static boolean isDigit(int value) {
            return value >= 0 && value <= GREATEST_DIGIT;
        }

        int appendField(State state, int shield) {
            Net net = state.net;
            if (!isDigit(shield)) {
                return WRONG_VALUE;
            }
            if (net.fieldTotal >= MOST_FIELDS) {
                return reject(FIELD_LIMIT, MOST_FIELDS);
            }
            net.shields[net.fieldTotal] = shield;
            state.cast.held[net.fieldTotal] = 0;
            net.fieldTotal++;
            return net.fieldTotal - 1;
        }

        int replaceShield(State state, int field, int shield) {
            if (!state.net.hasField(field)) {
                return NO_SUCH_INDEX;
            }
            if (!isDigit(shield)) {
                return WRONG_VALUE;
            }
            int previous = state.net.shields[field];
            state.net.shields[field] = shield;
            return previous;
        }

        int appendPath(State state, int first, int second, int cost, int gust) {
            Net net = state.net;
            if (!net.hasField(first) || !net.hasField(second)) {
                return NO_SUCH_INDEX;
            }
            if (first == second || cost == 0 || !isDigit(cost) || !isDigit(gust)) {
                return WRONG_VALUE;
            }
            if (net.pathTotal >= MOST_PATHS) {
                return reject(PATH_LIMIT, net.pathTotal - net.closedTotal());
            }
            int same = net.pathBetween(first, second);
            if (same != NONE) {
                return reject(SAME_PATH, same);
            }
            int path = net.pathTotal;
            net.firsts[path] = first;
            net.seconds[path] = second;
            net.costs[path] = cost;
            net.gusts[path] = gust;
            net.closed &= ~(1 << path);
            state.uses[path] = 0;
            net.pathTotal++;
            return path;
        }

        int replaceGust(State state, int path, int gust) {
            if (!state.net.hasPath(path)) {
                return NO_SUCH_INDEX;
            }
            if (!isDigit(gust)) {
                return WRONG_VALUE;
            }
            int previous = state.net.gusts[path];
            state.net.gusts[path] = gust;
            return previous;
        }

        int replaceBlocked(State state, int path, boolean blocked) {
            Net net = state.net;
            if (!net.hasPath(path)) {
                return NO_SUCH_INDEX;
            }
            if (net.isOpen(path) != blocked) {
                return reject(NO_CHANGE, net.closedTotal());
            }
            net.closed ^= 1 << path;
            return net.closedTotal();
        }

        int replaceSeed(State state, int seed) {
            if (seed < 0 || seed >= SEEDS) {
                return WRONG_VALUE;
            }
            int previous = state.cast.seed;
            state.cast.seed = seed;
            return previous;
        }

        int beginBroadcast(State state, int source, int packets, boolean parity) {
            Cast cast = state.cast;
            if (!state.net.hasField(source)) {
                return NO_SUCH_INDEX;
            }
            if (packets < 1 || packets > MOST_DATA) {
                return WRONG_VALUE;
            }
            if (cast.running) {
                return reject(BROADCASTING, cast.blown);
            }
            cast.running = true;
            cast.origin = source;
            cast.data = packets;
            cast.parity = parity;
            cast.blown = 0;
            for (int field = 0; field < MOST_FIELDS; field++) {
                cast.held[field] = field == source ? cast.allPackets() : 0;
            }
            cast.started++;
            return cast.started;
        }

        int letBlowOnce(State state, Winds winds) {
            if (!state.cast.running) {
                return reject(NO_BROADCAST, state.cast.started);
            }
            return winds.blowOnce(state);
        }

        int letBlowToEnd(State state, Winds winds) {
            if (!state.cast.running) {
                return reject(NO_BROADCAST, state.cast.started);
            }
            int blown = 0;
            while (blown < MOST_WINDS && state.cast.running) {
                winds.blowOnce(state);
                blown++;
            }
            return blown;
        }

        int stopBroadcast(State state) {
            if (!state.cast.running) {
                return reject(NO_BROADCAST, state.cast.started);
            }
            state.cast.running = false;
            return state.cast.blown;
        }
    }

    /**
     * The states ahead of the latest changes, in a ring. It has one slot more than can be undone, so
     * that a state can be noted ahead of a change that fails without losing the oldest one.
     */
    private static final class History {
        private static final int SLOTS = MOST_CHANGES + 1;

        private final State[] slots = new State[SLOTS];
        private int next = 0;
        int kept = 0;

        History() {
            for (int slot = 0; slot < SLOTS; slot++) {
                slots[slot] = new State();
            }
        }

        void note(State state) {
            slots[next].copyFrom(state);
        }

        State noted() {
            return slots[next];
        }

        void keep() {
            next = (next + 1) % SLOTS;
            kept = Math.min(kept + 1, MOST_CHANGES);
        }

        void stepBack(State state) {
            if (kept > 0) {
                next = (next + SLOTS - 1) % SLOTS;
                kept--;
                state.copyFrom(slots[next]);
            }
        }

        void forget() {
            kept = 0;
        }
    }

    /** What a command looks like: # is a digit, @ a number, * a "+" that may be missing. */
    private enum Kind {
        FIELD("field #"),
        PATH("path #-# # #"),
        SHIELD("shield # #"),
        GUST("gust @ #"),
        BLOCK("block @"),
        OPEN("open @"),
        SEED("seed @"),
        SEND("send # #*"),
        WIND("wind"),
        FINISH("finish"),
        ABORT("abort");

        private static final Kind[] ALL = values();

        final String shape;

        Kind(String shape) {
            this.shape = shape;
        }
    }

    /** The input, and the commands that were read from it. */
    private static final class Commands {
        final Kind[] kinds = new Kind[MOST_COMMANDS];
        final int[][] values = new int[MOST_COMMANDS][MOST_VALUES];
        int total = 0;
        int length = 0;
        private final char[] text = new char[MOST_INPUT];
        /** Where the reading stands, and after a failure the index of the character that does not fit. */
        private int at = 0;

        void append(char character) {
            if (length < MOST_INPUT) {
                text[length] = character;
                length++;
            }
        }

        /** Empties the input. Answers the offset of the syntax error, or NONE. */
        int read() {
            int error = readAll();
            length = 0;
            return error;
        }

        private int readAll() {
            total = 0;
            at = 0;
            while (total < MOST_COMMANDS && readCommand(at)) {
                total++;
                if (at >= length) {
                    return NONE;
                }
                if (!takeSign(';')) {
                    return at;
                }
            }
            return at;
        }

        /** No input fits two kinds, so the offset is where the kind that fits longest fails. */
        private boolean readCommand(int start) {
            int furthest = start;
            for (int index = 0; index < Kind.ALL.length; index++) {
                at = start;
                if (takeShape(Kind.ALL[index].shape, values[total])) {
                    kinds[total] = Kind.ALL[index];
                    return true;
                }
                furthest = Math.max(furthest, at);
            }
            at = furthest;
            return false;
        }

        private boolean takeShape(String shape, int[] row) {
            int taken = 0;
            for (int index = 0; index < shape.length(); index++) {
                char part = shape.charAt(index);
                if (part == '#' || part == '@' || part == '*') {
                    int value = takeValue(part);
                    if (value == NONE || taken >= MOST_VALUES) {
                        return false;
                    }
                    row[taken] = value;
                    taken++;
                } else if (!takeSign(part)) {
                    return false;
                }
            }
            return true;
        }

        private int takeValue(char part) {
            if (part == '*') {
                return takeSign('+') ? 1 : 0;
            }
            return takeDigits(part == '#' ? 1 : MOST_DIGITS);
        }

        private boolean takeSign(char sign) {
            if (at < length && text[at] == sign) {
                at++;
                return true;
            }
            return false;
        }

        /** Answers NONE if there is no digit. */
        private int takeDigits(int most) {
            int value = NONE;
            for (int taken = 0; taken < most; taken++) {
                if (at < length && text[at] >= '0' && text[at] <= '9') {
                    value = Math.max(value, 0) * 10 + (text[at] - '0');
                    at++;
                }
            }
            return value;
        }
    }
}
