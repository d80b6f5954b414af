import java.util.concurrent.Callable;

/** For each promise of the document: ordinary inputs, the edges that it names, and wrong inputs, in longer runs of calls. */
public final class PromiseTests extends Checks {
    private static final int PROMISES = 65;

    public static void main(String[] args) {
        newObject();
        addField();
        setShield();
        addPath();
        setGust();
        setBlocked();
        partsOfFieldsAndPaths();
        groups();
        cheapestWays();
        disjointWaysAndCuts();
        bridges();
        treeCosts();
        treePaths();
        parents();
        chances();
        seeds();
        startBroadcast();
        winds();
        windsThatFail();
        windsUntilEnd();
        abort();
        latestBroadcast();
        changesDuringBroadcast();
        forecasts();
        totals();
        orders();
        shares();
        consistency();
        output();
        input();
        execute();
        executeFailing();
        syntaxErrors();
        rejections();
        undo();
        undoOfEachChange();
        snapshots();
        for (int number = 1; number <= PROMISES; number++) {
            if (!checks.containsKey("Promise " + number)) {
                fail("promise " + number + " has no test");
            }
        }
        end();
    }

    /** The call throws this, and changes no totals and, unless it is rejected, not the latest rejection. */
    private static void dueThrow(Class<?> want, DandelionBroadcast x, Callable<?> call) {
        String totals = totals(x);
        String rejection = rejection(x);
        due(want, call);
        due(totals, () -> totals(x));
        if (want != REJECTED) {
            due(rejection, () -> rejection(x));
        }
    }

    private static void dueReject(int reason, int detail, DandelionBroadcast x, Callable<?> call) {
        dueThrow(REJECTED, x, call);
        due(reason + " " + detail + " " + NONE, () -> rejection(x));
    }

    private static void newObject() {
        promise(1);
        DandelionBroadcast x = new DandelionBroadcast();
        due(0, x::fieldCount);
        due(0, x::pathCount);
        due(0, x::groupCount);
        due(0, x::bridgeCount);
        due(false, x::isBroadcasting);
        due(0, x::sentCount);
        due(true, x::isConsistent);
        due(STATE, x::undo);
        due(STATE, x::restoreSnapshot);
        due(NONE, x::rejectionReason);
        due(NONE, x::rejectionDetail);
        due(NONE, x::causeReason);
        due(NONE, x::syntaxErrorOffset);
        due(NONE, x::source);
        due(0, () -> seedOf(x));
    }

    private static void addField() {
        promise(2);
        DandelionBroadcast x = new DandelionBroadcast();
        due(0, () -> x.addField(0));
        due(1, () -> x.addField(9));
        due(9, () -> x.shieldOf(1));
        dueThrow(VALUE, x, () -> x.addField(-1));
        dueThrow(VALUE, x, () -> x.addField(10));
        dueThrow(VALUE, x, () -> x.addField(Integer.MIN_VALUE));
        for (int field = 2; field < 9; field++) {
            int index = field;
            due(index, () -> x.addField(3));
        }
        dueThrow(VALUE, x, () -> x.addField(10));
        dueReject(DandelionBroadcast.FIELD_LIMIT, 9, x, () -> x.addField(1));
    }

    private static void setShield() {
        promise(3);
        DandelionBroadcast x = fields(2);
        due(0, () -> x.setShield(1, 9));
        due(9, () -> x.setShield(1, 4));
        due(4, () -> x.setShield(1, 0));
        due(0, () -> x.shieldOf(0));
        dueThrow(INDEX, x, () -> x.setShield(2, 1));
        dueThrow(INDEX, x, () -> x.setShield(-1, 10));
        dueThrow(VALUE, x, () -> x.setShield(0, 10));
        dueThrow(VALUE, x, () -> x.setShield(0, -1));
    }

    private static void addPath() {
        promise(4);
        DandelionBroadcast x = fields(3);
        due(0, () -> x.addPath(1, 0, 1, 0));
        due(1, () -> x.addPath(1, 2, 9, 9));
        due(false, () -> x.isBlocked(1));
        dueThrow(INDEX, x, () -> x.addPath(3, 0, 1, 1));
        dueThrow(INDEX, x, () -> x.addPath(0, -1, 0, 10));
        dueThrow(INDEX, x, () -> x.addPath(3, 3, 1, 1));
        dueThrow(VALUE, x, () -> x.addPath(2, 2, 1, 1));
        dueThrow(VALUE, x, () -> x.addPath(0, 2, 0, 1));
        dueThrow(VALUE, x, () -> x.addPath(0, 2, 10, 1));
        dueThrow(VALUE, x, () -> x.addPath(0, 2, 1, -1));
        dueThrow(VALUE, x, () -> x.addPath(0, 2, 1, 10));
        dueThrow(VALUE, x, () -> x.addPath(0, 1, 0, 1));
        dueReject(DandelionBroadcast.SAME_PATH, 0, x, () -> x.addPath(0, 1, 1, 1));
        dueReject(DandelionBroadcast.SAME_PATH, 1, x, () -> x.addPath(1, 2, 1, 1));
        x.setBlocked(1, true);
        dueReject(DandelionBroadcast.SAME_PATH, 1, x, () -> x.addPath(2, 1, 1, 1));

        DandelionBroadcast most = full(15);
        due(15, () -> most.addPath(8, 7, 1, 1));
        dueReject(DandelionBroadcast.PATH_LIMIT, 16, most, () -> most.addPath(6, 7, 1, 1));
        most.setBlocked(3, true);
        most.setBlocked(15, true);
        dueReject(DandelionBroadcast.PATH_LIMIT, 14, most, () -> most.addPath(0, 1, 1, 1));
        dueThrow(VALUE, most, () -> most.addPath(6, 7, 1, 10));
    }

    private static void setGust() {
        promise(5);
        DandelionBroadcast x = line(3, 4);
        due(4, () -> x.setGust(1, 9));
        due(9, () -> x.setGust(1, 0));
        due(0, () -> x.gustOf(1));
        due(4, () -> x.gustOf(0));
        dueThrow(INDEX, x, () -> x.setGust(2, 1));
        dueThrow(INDEX, x, () -> x.setGust(-1, 11));
        dueThrow(VALUE, x, () -> x.setGust(0, -1));
        dueThrow(VALUE, x, () -> x.setGust(0, 10));
    }

    private static void setBlocked() {
        promise(6);
        DandelionBroadcast x = line(3, 4);
        dueReject(DandelionBroadcast.NO_CHANGE, 0, x, () -> x.setBlocked(0, false));
        due(1, () -> x.setBlocked(0, true));
        due(2, () -> x.setBlocked(1, true));
        dueReject(DandelionBroadcast.NO_CHANGE, 2, x, () -> x.setBlocked(1, true));
        due(1, () -> x.setBlocked(0, false));
        dueReject(DandelionBroadcast.NO_CHANGE, 1, x, () -> x.setBlocked(0, false));
        dueThrow(INDEX, x, () -> x.setBlocked(2, true));
        dueThrow(INDEX, x, () -> x.setBlocked(-1, false));
    }

    private static void partsOfFieldsAndPaths() {
        DandelionBroadcast x = new DandelionBroadcast();
        x.addField(7);
        x.addField(2);
        x.addField(0);
        x.addPath(2, 0, 8, 3);
        x.addPath(0, 1, 5, 6);
        x.setBlocked(1, true);
        promise(7);
        due(3, x::fieldCount);
        promise(8);
        due(2, x::pathCount);
        promise(9);
        due(7, () -> x.shieldOf(0));
        due(0, () -> x.shieldOf(2));
        dueThrow(INDEX, x, () -> x.shieldOf(3));
        dueThrow(INDEX, x, () -> x.shieldOf(-1));
        promise(10);
        due(2, () -> x.firstOf(0));
        due(0, () -> x.firstOf(1));
        dueThrow(INDEX, x, () -> x.firstOf(2));
        dueThrow(INDEX, x, () -> x.firstOf(-1));
        promise(11);
        due(0, () -> x.secondOf(0));
        due(1, () -> x.secondOf(1));
        dueThrow(INDEX, x, () -> x.secondOf(2));
        dueThrow(INDEX, x, () -> x.secondOf(Integer.MAX_VALUE));
        promise(12);
        due(8, () -> x.costOf(0));
        due(5, () -> x.costOf(1));
        dueThrow(INDEX, x, () -> x.costOf(2));
        dueThrow(INDEX, x, () -> x.costOf(-1));
        promise(13);
        due(3, () -> x.gustOf(0));
        due(6, () -> x.gustOf(1));
        dueThrow(INDEX, x, () -> x.gustOf(2));
        dueThrow(INDEX, x, () -> x.gustOf(-1));
        promise(14);
        due(false, () -> x.isBlocked(0));
        due(true, () -> x.isBlocked(1));
        dueThrow(INDEX, x, () -> x.isBlocked(2));
        dueThrow(INDEX, x, () -> x.isBlocked(-1));
    }

    private static void groups() {
        promise(15);
        DandelionBroadcast x = fields(5);
        due(5, x::groupCount);
        x.addPath(4, 3, 1, 0);
        x.addPath(3, 0, 1, 0);
        due(3, x::groupCount);
        x.addPath(0, 4, 1, 0);
        due(3, x::groupCount);
        x.setBlocked(0, true);
        due(3, x::groupCount);
        x.setBlocked(2, true);
        due(4, x::groupCount);

        promise(16);
        due(true, () -> x.isConnected(0, 3));
        due(true, () -> x.isConnected(3, 0));
        due(false, () -> x.isConnected(0, 4));
        due(true, () -> x.isConnected(1, 1));
        dueThrow(INDEX, x, () -> x.isConnected(5, 0));
        dueThrow(INDEX, x, () -> x.isConnected(0, 5));
        dueThrow(INDEX, x, () -> x.isConnected(-1, -1));
        DandelionBroadcast line = line(9, 0);
        due(true, () -> line.isConnected(0, 8));
        due(true, () -> line.isConnected(8, 0));
    }

    private static void cheapestWays() {
        DandelionBroadcast x = fields(6);
        x.addPath(0, 1, 9, 0);
        x.addPath(0, 2, 2, 0);
        x.addPath(2, 3, 2, 0);
        x.addPath(3, 1, 2, 0);
        x.addPath(1, 4, 9, 0);
        for (boolean byRounds : new boolean[] {false, true}) {
            promise(byRounds ? 18 : 17);
            due(6, () -> way(x, byRounds, 0, 1));
            due(6, () -> way(x, byRounds, 1, 0));
            due(15, () -> way(x, byRounds, 4, 0));
            due(0, () -> way(x, byRounds, 5, 5));
            dueThrow(NONE, x, () -> way(x, byRounds, 0, 5));
            dueThrow(INDEX, x, () -> way(x, byRounds, 0, 6));
            dueThrow(INDEX, x, () -> way(x, byRounds, -1, 0));
            x.setBlocked(2, true);
            due(9, () -> way(x, byRounds, 0, 1));
            x.setBlocked(0, true);
            dueThrow(NONE, x, () -> way(x, byRounds, 0, 1));
            x.setBlocked(0, false);
            x.setBlocked(2, false);
            DandelionBroadcast longest = fields(9);
            for (int field = 8; field > 0; field--) {
                longest.addPath(field, field - 1, 9, 0);
            }
            due(72, () -> way(longest, byRounds, 0, 8));
            due(72, () -> way(longest, byRounds, 8, 0));
        }
    }

    private static int way(DandelionBroadcast x, boolean byRounds, int first, int second) {
        return byRounds ? x.wayCostByRounds(first, second) : x.wayCost(first, second);
    }

    private static void disjointWaysAndCuts() {
        // The shortest way 0-1-2-3 bars both disjoint ones, so it has to be turned back between 1 and 2.
        DandelionBroadcast x = fields(7);
        x.addPath(0, 1, 1, 0);
        x.addPath(1, 2, 1, 0);
        x.addPath(2, 3, 1, 0);
        x.addPath(0, 4, 1, 0);
        x.addPath(4, 2, 1, 0);
        x.addPath(1, 5, 1, 0);
        x.addPath(5, 3, 1, 0);
        for (boolean byCut : new boolean[] {false, true}) {
            promise(byCut ? 20 : 19);
            due(2, () -> ways(x, byCut, 0, 3));
            due(2, () -> ways(x, byCut, 3, 0));
            due(0, () -> ways(x, byCut, 0, 6));
            x.setBlocked(6, true);
            due(1, () -> ways(x, byCut, 0, 3));
            x.setBlocked(6, false);
            dueThrow(VALUE, x, () -> ways(x, byCut, 3, 3));
            dueThrow(INDEX, x, () -> ways(x, byCut, 7, 7));
            dueThrow(INDEX, x, () -> ways(x, byCut, 0, 7));
            dueThrow(INDEX, x, () -> ways(x, byCut, -1, 0));
            DandelionBroadcast star = full(15);
            due(8, () -> ways(star, byCut, 0, 1));
            due(2, () -> ways(star, byCut, 3, 4));
        }
    }

    private static int ways(DandelionBroadcast x, boolean byCut, int first, int second) {
        return byCut ? x.smallestCut(first, second) : x.disjointWays(first, second);
    }

    private static void bridges() {
        // Two rings, with a bridge between them, and a field that hangs on.
        DandelionBroadcast x = fields(8);
        x.addPath(0, 1, 1, 0);
        x.addPath(1, 2, 1, 0);
        x.addPath(2, 0, 1, 0);
        x.addPath(2, 3, 1, 0);
        x.addPath(3, 4, 1, 0);
        x.addPath(4, 5, 1, 0);
        x.addPath(5, 3, 1, 0);
        x.addPath(6, 5, 1, 0);
        promise(21);
        due(false, () -> x.isBridge(0));
        due(true, () -> x.isBridge(3));
        due(true, () -> x.isBridge(7));
        dueThrow(INDEX, x, () -> x.isBridge(8));
        dueThrow(INDEX, x, () -> x.isBridge(-1));
        promise(22);
        due(2, x::bridgeCount);
        due(8, () -> line(9, 0).bridgeCount());
        promise(23);
        due(2, x::bridgeCountByBlocking);
        due(8, () -> line(9, 0).bridgeCountByBlocking());
        x.setBlocked(0, true);
        promise(21);
        due(false, () -> x.isBridge(0));
        due(true, () -> x.isBridge(1));
        promise(22);
        due(4, x::bridgeCount);
        promise(23);
        due(4, x::bridgeCountByBlocking);
        x.setBlocked(3, true);
        promise(21);
        due(false, () -> x.isBridge(3));
        promise(22);
        due(3, x::bridgeCount);
        promise(23);
        due(3, x::bridgeCountByBlocking);
    }

    private static void treeCosts() {
        DandelionBroadcast x = ring();
        promise(24);
        due(8, () -> x.treeCost(0));
        due(8, () -> x.treeCost(3));
        due(7, () -> x.treeCost(5));
        dueThrow(INDEX, x, () -> x.treeCost(6));
        dueThrow(INDEX, x, () -> x.treeCost(-1));
        promise(25);
        due(8, () -> x.treeCostByGrowing(0));
        due(8, () -> x.treeCostByGrowing(3));
        due(7, () -> x.treeCostByGrowing(5));
        dueThrow(INDEX, x, () -> x.treeCostByGrowing(6));
        dueThrow(INDEX, x, () -> x.treeCostByGrowing(-1));
        x.setBlocked(1, true);
        DandelionBroadcast dear = fields(3);
        dear.addPath(0, 1, 9, 0);
        dear.addPath(2, 1, 9, 0);
        dear.addPath(2, 0, 9, 0);
        promise(24);
        due(11, () -> x.treeCost(0));
        due(18, () -> dear.treeCost(0));
        due(0, () -> fields(1).treeCost(0));
        promise(25);
        due(11, () -> x.treeCostByGrowing(0));
        due(18, () -> dear.treeCostByGrowing(0));
        due(0, () -> fields(1).treeCostByGrowing(0));
    }

    private static void treePaths() {
        promise(26);
        DandelionBroadcast x = ring();
        due(true, () -> x.isInTree(0, 0));
        due(true, () -> x.isInTree(3, 0));
        due(true, () -> x.isInTree(2, 2));
        due(false, () -> x.isInTree(0, 3));
        due(false, () -> x.isInTree(0, 4));
        due(true, () -> x.isInTree(5, 4));
        due(false, () -> x.isInTree(5, 0));
        dueThrow(INDEX, x, () -> x.isInTree(6, 0));
        dueThrow(INDEX, x, () -> x.isInTree(0, 5));
        dueThrow(INDEX, x, () -> x.isInTree(0, -1));
        x.setBlocked(0, true);
        due(false, () -> x.isInTree(0, 0));
        due(true, () -> x.isInTree(0, 3));
    }

    private static void parents() {
        promise(27);
        DandelionBroadcast x = ring();
        due(0, () -> x.parentIn(0, 1));
        due(1, () -> x.parentIn(0, 2));
        due(2, () -> x.parentIn(0, 3));
        due(1, () -> x.parentIn(3, 0));
        due(4, () -> x.parentIn(4, 5));
        dueThrow(NONE, x, () -> x.parentIn(0, 0));
        dueThrow(NONE, x, () -> x.parentIn(0, 4));
        dueThrow(INDEX, x, () -> x.parentIn(6, 0));
        dueThrow(INDEX, x, () -> x.parentIn(0, 6));
        dueThrow(INDEX, x, () -> x.parentIn(-1, -1));
    }

    private static void chances() {
        promise(28);
        DandelionBroadcast x = ring();
        x.setShield(2, 1);
        due(1.0f, () -> x.reachChance(0, 0));
        due(1.0f / 10.0f, () -> x.reachChance(0, 1));
        due(1.0f / 10.0f * (8.0f / 10.0f), () -> x.reachChance(0, 2));
        due(7.0f / 10.0f, () -> x.reachChance(2, 1));
        due(7.0f / 10.0f * (1.0f / 10.0f), () -> x.reachChance(2, 0));
        due(1.0f, () -> x.reachChance(2, 3));
        x.setShield(1, 9);
        due(1.0f, () -> x.reachChance(0, 1));
        dueThrow(NONE, x, () -> x.reachChance(0, 4));
        dueThrow(INDEX, x, () -> x.reachChance(6, 0));
        dueThrow(INDEX, x, () -> x.reachChance(0, -1));
        DandelionBroadcast line = line(4, 3);
        float chance = 1.0f;
        for (int field = 1; field < 4; field++) {
            chance = chance * (7.0f / 10.0f);
        }
        float want = chance;
        due(want, () -> line.reachChance(0, 3));
        due(1.0f, () -> fields(1).reachChance(0, 0));
    }

    private static void seeds() {
        promise(29);
        DandelionBroadcast x = new DandelionBroadcast();
        due(0, () -> x.setSeed(511));
        due(511, () -> x.setSeed(0));
        dueThrow(VALUE, x, () -> x.setSeed(-1));
        dueThrow(VALUE, x, () -> x.setSeed(512));
        due(0, () -> seedOf(x));
        // (30 * 61 + 17) % 512 = 311, and 1 is less than the danger 2.
        DandelionBroadcast drawn = line(2, 2);
        drawn.setSeed(30);
        drawn.startBroadcast(0, 1, false);
        due(0, drawn::wind);
        due(311, () -> seedOf(drawn));
        due(1, drawn::wind);
        due(44, () -> seedOf(drawn));
    }

    private static void startBroadcast() {
        promise(30);
        DandelionBroadcast x = line(3, 0);
        dueThrow(INDEX, x, () -> x.startBroadcast(3, 1, false));
        dueThrow(INDEX, x, () -> x.startBroadcast(-1, 0, false));
        dueThrow(VALUE, x, () -> x.startBroadcast(0, 0, true));
        dueThrow(VALUE, x, () -> x.startBroadcast(0, 7, true));
        due(1, () -> x.startBroadcast(1, 6, true));
        due(7, () -> x.packetsOf(1));
        due(0, () -> x.packetsOf(0));
        dueReject(DandelionBroadcast.BROADCASTING, 0, x, () -> x.startBroadcast(0, 1, false));
        dueThrow(VALUE, x, () -> x.startBroadcast(0, 7, true));
        x.setGust(0, 9);
        x.wind();
        due(true, x::isBroadcasting);
        dueReject(DandelionBroadcast.BROADCASTING, 1, x, () -> x.startBroadcast(0, 1, false));
        x.abort();
        due(2, () -> x.startBroadcast(0, 1, false));
        due("1/0/0", () -> x.packetsOf(0) + "/" + x.packetsOf(1) + "/" + x.packetsOf(2));
        x.abort();
        due(3, () -> x.startBroadcast(2, 2, true));
        due(3, () -> x.packetsOf(2));
    }

    /** The draws from the seed 0, modulo 10, are 7 0 1 4 1 6 3 4 7 6 5 2. */
    private static void winds() {
        promise(31);
        DandelionBroadcast x = fields(2);
        x.addPath(0, 1, 2, 5);
        dueReject(DandelionBroadcast.NO_BROADCAST, 0, x, x::wind);
        x.startBroadcast(0, 3, true);
        due(1, x::wind);
        due("1s0:#...", () -> written(x, 1));
        due(1, x::wind);
        due("1s0:#.#.", () -> written(x, 1));
        due(true, x::isBroadcasting);
        due(1, x::wind);
        due("1s0:####!", () -> written(x, 1));
        due(false, x::isBroadcasting);
        due("9 6 1 18 1", () -> x.sentCount() + " " + x.lostCount() + " " + x.rebuiltCount() + " " + x.energy()
            + " " + x.finishedCount());
        dueReject(DandelionBroadcast.NO_BROADCAST, 1, x, x::wind);

        // An arrived packet is sent on in the same wind, and a shield takes the danger away.
        DandelionBroadcast line = line(9, 0);
        line.startBroadcast(0, 2, false);
        due(16, line::wind);
        due(1, line::finishedCount);

        // The packet that 1 rebuilds is not sent on to 2 in the same wind.
        DandelionBroadcast rebuilds = line(3, 1);
        rebuilds.setGust(1, 5);
        rebuilds.startBroadcast(0, 2, true);
        due(2, rebuilds::wind);
        due("1s0:###!", () -> written(rebuilds, 1));
        due("2s0:...", () -> written(rebuilds, 2));
        due("5 3 1", () -> rebuilds.sentCount() + " " + rebuilds.lostCount() + " " + rebuilds.rebuiltCount());

        // Fields of the same depth are visited in the order of their indices, whatever the paths' order is.
        DandelionBroadcast star = fields(3);
        star.addPath(0, 2, 1, 1);
        star.addPath(0, 1, 9, 1);
        star.startBroadcast(0, 1, false);
        due(1, star::wind);
        due(1, () -> star.packetsOf(1));
        due(0, () -> star.packetsOf(2));

        // Without a parity packet nothing is rebuilt; the draws are 7, 0.
        DandelionBroadcast plain = line(2, 1);
        plain.startBroadcast(0, 2, false);
        due(1, plain::wind);
        due(0, plain::rebuiltCount);
        due(1, () -> plain.packetsOf(1));

        // Fields of other groups count neither for the end nor for rebuilding.
        DandelionBroadcast apart = line(4, 1);
        apart.setBlocked(2, true);
        apart.startBroadcast(0, 1, false);
        due(1, apart::wind);
        apart.abort();
        DandelionBroadcast alone = fields(2);
        alone.startBroadcast(1, 6, true);
        due(0, alone::wind);
        due(1, alone::finishedCount);
        due(0, () -> alone.packetsOf(0));
    }

    private static void windsThatFail() {
        promise(31);
        DandelionBroadcast x = line(9, 9);
        x.startBroadcast(0, 6, false);
        for (int number = 1; number < 30; number++) {
            x.wind();
        }
        due(true, x::isBroadcasting);
        due(0, x::failedCount);
        due(1, x::windsLeft);
        x.wind();
        due(false, x::isBroadcasting);
        due(1, x::failedCount);
        due(0, x::finishedCount);
        due(6, () -> x.packetsOf(0));
        due(true, x::isConsistent);
        due(2, () -> x.startBroadcast(8, 1, false));
    }

    private static void windsUntilEnd() {
        promise(32);
        DandelionBroadcast x = fields(2);
        x.addPath(0, 1, 2, 5);
        dueReject(DandelionBroadcast.NO_BROADCAST, 0, x, x::windUntilEnd);
        x.startBroadcast(0, 3, true);
        x.wind();
        due(2, x::windUntilEnd);
        due("1s0:####!", () -> written(x, 1));
        due(9, x::sentCount);
        dueReject(DandelionBroadcast.NO_BROADCAST, 1, x, x::windUntilEnd);

        DandelionBroadcast failing = line(9, 9);
        failing.startBroadcast(0, 6, false);
        failing.wind();
        failing.wind();
        due(28, failing::windUntilEnd);
        due(1, failing::failedCount);
    }

    private static void abort() {
        promise(33);
        DandelionBroadcast x = line(2, 9);
        dueReject(DandelionBroadcast.NO_BROADCAST, 0, x, x::abort);
        x.startBroadcast(0, 2, false);
        due(0, x::abort);
        x.startBroadcast(0, 2, false);
        x.wind();
        x.wind();
        due(2, x::abort);
        x.startBroadcast(0, 2, false);
        due(0, x::abort);
        due(false, x::isBroadcasting);
        due(0, x::failedCount);
        due(0, x::finishedCount);
        due(2, () -> x.packetsOf(0));
        dueReject(DandelionBroadcast.NO_BROADCAST, 3, x, x::abort);
    }

    private static void latestBroadcast() {
        DandelionBroadcast x = fields(2);
        x.addPath(0, 1, 1, 5);
        promise(34);
        due(false, x::isBroadcasting);
        promise(35);
        dueThrow(NONE, x, x::source);
        promise(36);
        dueThrow(NONE, x, () -> x.hasPacket(0, 0));
        dueThrow(INDEX, x, () -> x.hasPacket(2, 0));
        promise(37);
        due(0, () -> x.packetsOf(0));
        promise(38);
        dueThrow(NONE, x, () -> x.isCovered(0));
        dueThrow(INDEX, x, () -> x.isCovered(2));
        promise(39);
        due(0, x::coveredCount);

        x.startBroadcast(0, 3, true);
        x.wind();
        promise(34);
        due(true, x::isBroadcasting);
        promise(35);
        due(0, x::source);
        promise(36);
        due(true, () -> x.hasPacket(0, 3));
        due(true, () -> x.hasPacket(1, 0));
        due(false, () -> x.hasPacket(1, 3));
        dueThrow(NONE, x, () -> x.hasPacket(0, 4));
        dueThrow(NONE, x, () -> x.hasPacket(0, -1));
        dueThrow(INDEX, x, () -> x.hasPacket(2, 9));
        dueThrow(INDEX, x, () -> x.hasPacket(-1, 0));
        promise(37);
        due(4, () -> x.packetsOf(0));
        due(1, () -> x.packetsOf(1));
        dueThrow(INDEX, x, () -> x.packetsOf(2));
        dueThrow(INDEX, x, () -> x.packetsOf(-1));
        promise(38);
        due(true, () -> x.isCovered(0));
        due(false, () -> x.isCovered(1));
        dueThrow(INDEX, x, () -> x.isCovered(-1));
        promise(39);
        due(1, x::coveredCount);

        x.windUntilEnd();
        promise(34);
        due(false, x::isBroadcasting);
        promise(35);
        due(0, x::source);
        promise(38);
        due(true, () -> x.isCovered(1));
        promise(39);
        due(2, x::coveredCount);
        x.startBroadcast(1, 3, false);
        x.abort();
        promise(35);
        due(1, x::source);
        promise(36);
        dueThrow(NONE, x, () -> x.hasPacket(0, 3));
        promise(37);
        due(3, () -> x.packetsOf(1));
        coveredByDataAlone();
    }

    /** Covered means all data packets, and the parity packet is none: 44, 141 and 426 arrive, 403 is lost. */
    private static void coveredByDataAlone() {
        DandelionBroadcast x = line(3, 4);
        x.setBlocked(1, true);
        x.setSeed(311);
        x.startBroadcast(0, 3, false);
        promise(38);
        x.wind();
        due("1s0:#.#", () -> written(x, 1));
        due(false, () -> x.isCovered(1));
        promise(39);
        due(1, x::coveredCount);
        x.abort();
        // 7 and 0: the data packet arrives, the parity packet is lost, and then rebuilt.
        x.setSeed(0);
        x.startBroadcast(0, 1, true);
        x.wind();
        promise(38);
        due(true, () -> x.isCovered(1));
        due(false, () -> x.isCovered(2));
        promise(39);
        due(2, x::coveredCount);
    }

    private static void changesDuringBroadcast() {
        promise(31);
        DandelionBroadcast x = line(2, 9);
        x.startBroadcast(0, 2, false);
        x.addField(9);
        x.addPath(0, 2, 1, 9);
        due(0, () -> x.packetsOf(2));
        // The path to 1 has lost 7 and 0 when 2 gets both packets in the same wind.
        due(2, x::wind);
        due(true, x::isBroadcasting);
        due(2, () -> x.packetsOf(2));
        x.setBlocked(0, true);
        due(1, x::windsLeft);
        due(0, x::wind);
        due(1, x::finishedCount);
    }

    private static void forecasts() {
        DandelionBroadcast x = fields(2);
        x.addPath(0, 1, 2, 5);
        promise(40);
        dueThrow(NONE, x, x::windsLeft);
        promise(41);
        dueThrow(NONE, x, x::energyLeft);
        x.startBroadcast(0, 3, true);
        promise(40);
        due(3, x::windsLeft);
        due(3, x::windsLeft);
        promise(41);
        due(18, x::energyLeft);
        due(0, x::energy);
        x.wind();
        promise(40);
        due(2, x::windsLeft);
        promise(41);
        due(10, x::energyLeft);
        x.setShield(1, 5);
        promise(41);
        due(6, x::energyLeft);
        promise(40);
        due(1, x::windsLeft);
        x.abort();
        promise(40);
        dueThrow(NONE, x, x::windsLeft);
        promise(41);
        dueThrow(NONE, x, x::energyLeft);
        DandelionBroadcast failing = line(9, 9);
        failing.startBroadcast(0, 6, false);
        promise(40);
        due(30, failing::windsLeft);
        due(0, failing::failedCount);
    }

    private static void totals() {
        DandelionBroadcast x = fields(3);
        x.addPath(0, 1, 2, 5);
        x.addPath(1, 2, 3, 0);
        x.startBroadcast(0, 3, true);
        // 7 0 1 4: only the first packet arrives at 1; it is sent on to 2.
        x.wind();
        promise(42);
        due(5, x::sentCount);
        promise(43);
        due(3, x::lostCount);
        promise(44);
        due(0, x::rebuiltCount);
        promise(45);
        due(11, x::energy);
        promise(48);
        due(4, () -> x.useOf(0));
        due(1, () -> x.useOf(1));
        dueThrow(INDEX, x, () -> x.useOf(2));
        dueThrow(INDEX, x, () -> x.useOf(-1));
        // 6 3 4 for packets 1 2 3: packet 1 arrives and is sent on with 7.
        x.wind();
        promise(42);
        due(9, x::sentCount);
        // 6 and 5: both arrive, and are sent on.
        x.wind();
        promise(44);
        due(0, x::rebuiltCount);
        promise(46);
        due(1, x::finishedCount);
        promise(47);
        due(0, x::failedCount);
        promise(43);
        due(5, x::lostCount);
        promise(48);
        due(9, () -> x.useOf(0));
        due(4, () -> x.useOf(1));
        promise(45);
        due(30, x::energy);
        rebuiltByAll();
        promise(47);
        DandelionBroadcast failing = line(9, 9);
        failing.startBroadcast(0, 6, false);
        failing.windUntilEnd();
        due(1, failing::failedCount);
        promise(46);
        due(0, failing::finishedCount);
    }

    /** 7 0: the parity packet is lost on its way to 1, so 1 and 2 lack it both, and both rebuild it. */
    private static void rebuiltByAll() {
        promise(44);
        DandelionBroadcast x = line(3, 1);
        x.startBroadcast(0, 1, true);
        due(2, x::wind);
        due(2, x::rebuiltCount);
        due(3, x::sentCount);
        due(1, x::finishedCount);
    }

    private static void orders() {
        promise(49);
        DandelionBroadcast x = new DandelionBroadcast();
        dueThrow(NONE, x, () -> x.fieldByPackets(0));
        x.addField(1);
        x.addField(4);
        x.addField(4);
        x.addField(0);
        due("1 2 0 3", () -> x.fieldByPackets(0) + " " + x.fieldByPackets(1) + " " + x.fieldByPackets(2)
            + " " + x.fieldByPackets(3));
        dueThrow(NONE, x, () -> x.fieldByPackets(4));
        dueThrow(NONE, x, () -> x.fieldByPackets(-1));
        x.startBroadcast(3, 1, false);
        due(3, () -> x.fieldByPackets(0));
        due(0, () -> x.fieldByPackets(3));

        promise(50);
        dueThrow(NONE, x, () -> x.pathByUse(0));
        x.addPath(0, 1, 5, 0);
        x.addPath(0, 2, 5, 0);
        x.addPath(1, 2, 2, 0);
        due("2 0 1", () -> x.pathByUse(0) + " " + x.pathByUse(1) + " " + x.pathByUse(2));
        dueThrow(NONE, x, () -> x.pathByUse(3));
        dueThrow(NONE, x, () -> x.pathByUse(-1));
        x.addPath(3, 0, 9, 0);
        x.wind();
        // The tree of 3 has the paths 3, 0 and 2, each used once.
        due("2 0 3 1", () -> x.pathByUse(0) + " " + x.pathByUse(1) + " " + x.pathByUse(2) + " " + x.pathByUse(3));
    }

    private static void shares() {
        DandelionBroadcast x = fields(2);
        x.addPath(0, 1, 2, 5);
        x.startBroadcast(0, 3, true);
        promise(51);
        dueThrow(DIVISION, x, x::meanEnergy);
        promise(52);
        dueThrow(DIVISION, x, x::lossShare);
        promise(53);
        dueThrow(DIVISION, x, x::lossBits);
        x.windUntilEnd();
        x.addField(0);
        x.addPath(0, 2, 1, 0);
        x.setBlocked(0, true);
        x.startBroadcast(0, 1, false);
        x.wind();
        promise(51);
        due(19.0 / 10.0, x::meanEnergy);
        promise(52);
        due(6.0f / 10.0f, x::lossShare);
        promise(53);
        due(Float.floatToIntBits(6.0f / 10.0f), x::lossBits);
        bitsOfManyShares();
    }

    private static void bitsOfManyShares() {
        promise(53);
        DandelionBroadcast none = line(2, 0);
        none.startBroadcast(0, 1, false);
        none.wind();
        due(0, none::lossBits);
        DandelionBroadcast all = line(2, 9);
        all.startBroadcast(0, 1, false);
        all.wind();
        due(0x3f800000, all::lossBits);
        for (int gust = 0; gust < 10; gust++) {
            DandelionBroadcast x = line(4, gust);
            for (int round = 0; round < 30; round++) {
                x.startBroadcast(round % 4, 6, false);
                x.windUntilEnd();
                due(Float.floatToIntBits((float) x.lostCount() / (float) x.sentCount()), x::lossBits);
            }
        }
    }

    private static void consistency() {
        promise(54);
        DandelionBroadcast x = full(16);
        due(true, x::isConsistent);
        for (int path = 0; path < 16; path++) {
            x.setBlocked(path, true);
            due(true, x::isConsistent);
        }
        DandelionBroadcast ring = ring();
        ring.startBroadcast(0, 6, true);
        ring.windUntilEnd();
        ring.undo();
        due(true, ring::isConsistent);
    }

    private static void output() {
        promise(55);
        DandelionBroadcast x = new DandelionBroadcast();
        for (int field = 0; field < 4; field++) {
            x.addField(field + 1);
        }
        promise(56);
        due(INDEX, () -> x.outputAt(0));
        promise(55);
        due(4, () -> x.writeField(3));
        due("3s4:", () -> written(x, 3));
        x.addPath(0, 3, 1, 9);
        x.startBroadcast(0, 3, true);
        due("0s1:####!", () -> written(x, 0));
        due("3s4:....", () -> written(x, 3));
        // The danger is 5: 7 arrives, 0, 1 and 4 are lost.
        x.wind();
        due("3s4:#...", () -> written(x, 3));
        due(8, () -> x.writeField(3));
        promise(56);
        due('3', () -> x.outputAt(0));
        due('.', () -> x.outputAt(7));
        due(INDEX, () -> x.outputAt(8));
        due(INDEX, () -> x.outputAt(-1));
        promise(55);
        due(INDEX, () -> x.writeField(4));
        due(INDEX, () -> x.writeField(-1));
        promise(56);
        due('3', () -> x.outputAt(0));
        x.undo();
        due('#', () -> x.outputAt(4));
        promise(55);
        DandelionBroadcast most = fields(9);
        most.startBroadcast(8, 6, true);
        due("8s0:#######!", () -> written(most, 8));
        due(12, () -> most.writeField(8));
        due(11, () -> most.writeField(0));
        promise(56);
        due(INDEX, () -> most.outputAt(11));
    }

    private static void input() {
        promise(57);
        DandelionBroadcast x = new DandelionBroadcast();
        due(VALUE, () -> x.appendInput((char) 31));
        due(VALUE, () -> x.appendInput((char) 127));
        due(VALUE, () -> x.appendInput((char) 65535));
        due(1, () -> x.appendInput((char) 32));
        due(2, () -> x.appendInput((char) 126));
        for (int length = 3; length <= 60; length++) {
            int want = length;
            due(want, () -> x.appendInput('a'));
        }
        due(STATE, () -> x.appendInput('a'));
        due(VALUE, () -> x.appendInput((char) 31));
        due(VALUE, x::execute);
        due(1, () -> x.appendInput('a'));
    }

    private static void execute() {
        promise(58);
        DandelionBroadcast x = new DandelionBroadcast();
        due(3, () -> run(x, "field 3;field 0;path 1-0 7 5"));
        due("3 0 1 0 7 5", () -> x.shieldOf(0) + " " + x.shieldOf(1) + " " + x.firstOf(0) + " " + x.secondOf(0)
            + " " + x.costOf(0) + " " + x.gustOf(0));
        due(2, () -> run(x, "shield 1 8;gust 000 9"));
        due("8 9", () -> x.shieldOf(1) + " " + x.gustOf(0));
        due(1, () -> run(x, "block 0"));
        due(true, () -> x.isBlocked(0));
        due(1, () -> run(x, "open 00"));
        due(false, () -> x.isBlocked(0));
        due(1, () -> run(x, "seed 511"));
        due(511, () -> seedOf(x));
        due(1, () -> run(x, "send 1 6+"));
        due(7, () -> x.packetsOf(1));
        due(1, () -> run(x, "wind"));
        due(true, () -> x.sentCount() > 0);
        due(1, () -> run(x, "abort"));
        due(false, x::isBroadcasting);
        due(2, () -> run(x, "send 0 2;finish"));
        due(2, () -> x.packetsOf(0));
        due(1, x::finishedCount);
        due(6, () -> run(fields(1), "send 0 1;wind;send 0 1;wind;send 0 1;wind"));
        StringBuilder twelve = new StringBuilder("seed 1");
        DandelionBroadcast many = line(2, 9);
        many.setShield(1, 0);
        many.startBroadcast(0, 6, false);
        for (int i = 0; i < 10; i++) {
            twelve.append(";wind");
        }
        due(56, twelve::length);
        due(11, () -> run(many, twelve.toString()));
        DandelionBroadcast most = line(9, 9);
        most.startBroadcast(0, 6, false);
        due(12, () -> run(most, "wind;wind;wind;wind;wind;wind;wind;wind;wind;wind;wind;wind"));
        due(18, most::windsLeft);
        due(VALUE, () -> run(most, "wind;wind;wind;wind;wind;wind;wind;wind;wind;wind;wind;wind;"));
        due(60, most::syntaxErrorOffset);
        due(18, most::windsLeft);
    }

    private static void executeFailing() {
        promise(58);
        DandelionBroadcast wrong = line(2, 9);
        dueThrow(VALUE, wrong, () -> run(wrong, "field 1;"));
        dueThrow(VALUE, wrong, wrong::execute);
        // Each of these commands fails by another exception than a rejection.
        String[] failing = {"shield 3 1", "gust 1 0", "block 001", "open 999", "seed 512", "send 3 1", "send 0 0",
            "send 0 7", "path 0-0 1 1", "path 0-3 1 1", "path 9-0 1 1", "path 0-1 0 1"};
        for (String command : failing) {
            DandelionBroadcast failed = line(2, 9);
            dueThrow(STATE, failed, () -> run(failed, "field 4;" + command + ";abort"));
            due(2, () -> run(failed, "field 4;field 4"));
        }
        DandelionBroadcast x = line(2, 9);
        dueThrow(REJECTED, x, () -> run(x, "seed 9;field 4;abort;seed 999"));
        due(7, x::rejectionReason);
        due(2, x::rejectionDetail);
        promise(62);
        due(6, x::causeReason);
        promise(58);
        due(0, () -> seedOf(x));
        dueThrow(REJECTED, x, () -> run(x, "open 0"));
        due("7 0 4", () -> x.rejectionReason() + " " + x.rejectionDetail() + " " + x.causeReason());
        dueThrow(STATE, x, () -> run(x, "seed 999;open 0"));
        due("7 0 4", () -> x.rejectionReason() + " " + x.rejectionDetail() + " " + x.causeReason());
        dueThrow(REJECTED, x, () -> run(x, "send 0 1;send 0 1"));
        due("7 1 5", () -> x.rejectionReason() + " " + x.rejectionDetail() + " " + x.causeReason());
        due(false, x::isBroadcasting);
        due(NONE, x::source);
        dueThrow(REJECTED, x, () -> run(x, "block 0;block 0"));
        due("7 1 4", () -> x.rejectionReason() + " " + x.rejectionDetail() + " " + x.causeReason());
        DandelionBroadcast most = full(16);
        dueThrow(REJECTED, most, () -> run(most, "path 7-8 1 1"));
        due(2, most::causeReason);
        dueThrow(REJECTED, most, () -> run(most, "field 0"));
        due(1, most::causeReason);
        dueThrow(REJECTED, most, () -> run(most, "finish"));
        due(6, most::causeReason);
        dueThrow(REJECTED, most, () -> run(most, "wind"));
        due(6, most::causeReason);
        DandelionBroadcast same = line(2, 0);
        dueThrow(REJECTED, same, () -> run(same, "path 1-0 1 1"));
        due(3, same::causeReason);
    }

    private static void syntaxErrors() {
        promise(59);
        String[] texts = {"", ";", "x", "f", "fx", "fi", "fie", "fin", "fix", "field", "field ", "field x", "field 1 ",
            "field 12", "finish1", "finis", "s", "sx", "se", "sex", "see", "seed", "seed ", "seed x", "seed 1234",
            "seed 12x", "seed 123;", "send 1", "send 1 ", "send 1 1 ", "send 1 1++", "send 10", "send  1",
            "shield 1 1+", "shield 1", "shield 10 1", "gust 1", "gust 1234 1", "gust 123 ", "gust 123 45", "gust  1",
            "block", "block -1", "block 1;;", "open 1;open x", "path 1-2 3", "path 1-2 3 4 ", "path 1 2", "path 12",
            "path 1-2-3", "wind;wind x", "Wind", "wind ", " wind", "abort;a", "w;", "field 1;field 2;fiend",
            "gust 12345", "block 9999", "pat", "path 1-23"};
        int[] offsets = {0, 0, 0, 1, 1, 2, 3, 3, 2, 5, 6, 6, 7,
            7, 6, 5, 1, 1, 2, 2, 3, 4, 5, 5, 8,
            7, 9, 6, 7, 8, 9, 6, 5,
            10, 8, 8, 6, 8, 9, 10, 5,
            5, 6, 8, 12, 10, 12, 6, 6,
            8, 9, 0, 4, 0, 7, 1, 19,
            8, 9, 3, 8};
        due(texts.length, () -> offsets.length);
        for (int i = 0; i < texts.length; i++) {
            String text = texts[i];
            DandelionBroadcast wrong = line(2, 9);
            due(NONE, wrong::syntaxErrorOffset);
            due(VALUE, () -> run(wrong, text));
            due(text + " " + offsets[i], () -> text + " " + wrong.syntaxErrorOffset());
        }
        DandelionBroadcast x = line(2, 9);
        due(VALUE, () -> run(x, "path 1-23"));
        run(x, "field 1");
        due(8, x::syntaxErrorOffset);
        x.undo();
        due(8, x::syntaxErrorOffset);
        due(STATE, () -> run(x, "seed 999"));
        due(8, x::syntaxErrorOffset);
        due(NONE, x::rejectionReason);
    }

    private static void rejections() {
        DandelionBroadcast x = line(2, 9);
        promise(60);
        due(NONE, x::rejectionReason);
        promise(61);
        due(NONE, x::rejectionDetail);
        promise(62);
        due(NONE, x::causeReason);
        due(REJECTED, () -> x.addPath(1, 0, 1, 1));
        promise(60);
        due(3, x::rejectionReason);
        promise(61);
        due(0, x::rejectionDetail);
        promise(62);
        due(NONE, x::causeReason);
        due(REJECTED, () -> run(x, "field 1;wind"));
        due(6, x::causeReason);
        promise(60);
        due(7, x::rejectionReason);
        promise(61);
        due(1, x::rejectionDetail);
        // The latest rejection stays as it was when the call was rejected, and is not undone.
        x.setSeed(1);
        x.undo();
        x.saveSnapshot();
        x.restoreSnapshot();
        due(1, x::rejectionDetail);
        promise(62);
        due(6, x::causeReason);
        x.startBroadcast(0, 1, false);
        due(REJECTED, () -> x.startBroadcast(0, 1, false));
        due(NONE, x::causeReason);
        promise(61);
        x.setSeed(30);
        x.wind();
        due(0, x::rejectionDetail);
        due(REJECTED, () -> x.startBroadcast(0, 1, false));
        due(1, x::rejectionDetail);
        promise(60);
        due(5, x::rejectionReason);
        due(VALUE, () -> x.startBroadcast(0, 0, false));
        due(INDEX, () -> x.firstOf(9));
        due(5, x::rejectionReason);
    }

    private static void undo() {
        promise(63);
        DandelionBroadcast x = new DandelionBroadcast();
        due(STATE, x::undo);
        for (int field = 0; field < 9; field++) {
            x.addField(field);
        }
        due(REJECTED, () -> x.addField(0));
        due(VALUE, () -> x.addField(10));
        for (int left = 7; left >= 0; left--) {
            int want = left;
            due(want, x::undo);
            due(want + 1, x::fieldCount);
        }
        dueThrow(STATE, x, x::undo);
        due(1, x::fieldCount);
        due(0, () -> x.shieldOf(0));
        // Changes without a difference count, too; failing ones do not.
        x.setShield(0, 0);
        due(STATE, () -> run(x, "field 1;seed 999"));
        due(REJECTED, () -> run(x, "field 1;wind"));
        due(VALUE, () -> run(x, "field 1;"));
        due(2, () -> run(x, "field 1;field 2"));
        due(1, x::undo);
        due(1, x::fieldCount);
        x.addField(5);
        due(1, x::undo);
        due(0, x::undo);
        due(STATE, x::undo);
    }

    private static void undoOfEachChange() {
        promise(63);
        undoInTurn(new int[] {0, 1, 2, 3, 4, 5, 6, 7});
        undoInTurn(new int[] {10, 6, 7, 1, 7, 8, 6, 9});
        undoInTurn(new int[] {6, 9, 6, 9, 5, 3, 10, 0});
        undoInTurn(new int[] {2, 6, 8, 3, 10, 0, 1, 5});
    }

    /** Eight changes, and the way back through the data ahead of each of them. */
    private static void undoInTurn(int[] kinds) {
        for (int left = kinds.length - 1; left >= 0; left--) {
            DandelionBroadcast x = changed(kinds, kinds.length);
            for (int undone = kinds.length - 1; undone > left; undone--) {
                x.undo();
            }
            due(left, x::undo);
            DandelionBroadcast before = changed(kinds, left);
            due(data(before), () -> data(x));
            due(seedOf(before), () -> seedOf(x));
        }
        DandelionBroadcast all = changed(kinds, kinds.length);
        for (int undone = 0; undone < kinds.length; undone++) {
            all.undo();
        }
        due(STATE, all::undo);
        due(NONE, all::source);
        due(1, () -> all.startBroadcast(1, 1, true));
    }

    private static DandelionBroadcast changed(int[] kinds, int count) {
        DandelionBroadcast x = ring();
        for (int i = 0; i < count; i++) {
            change(x, kinds[i]);
        }
        return x;
    }

    private static void change(DandelionBroadcast x, int kind) {
        switch (kind) {
            case 0: x.addField(4); break;
            case 1: x.setShield(2, 7); break;
            case 2: x.addPath(0, 4, 1, 2); break;
            case 3: x.setGust(0, 2); break;
            case 4: x.setBlocked(1, true); break;
            case 5: x.setSeed(77); break;
            case 6: x.startBroadcast(2, 4, true); break;
            case 7: x.wind(); break;
            case 8: x.windUntilEnd(); break;
            case 9: x.abort(); break;
            default: run(x, "field 1;seed 5;send 4 6;finish;block 1;shield 0 9"); break;
        }
    }

    private static void snapshots() {
        DandelionBroadcast x = ring();
        promise(65);
        dueThrow(STATE, x, x::restoreSnapshot);
        x.setSeed(100);
        x.startBroadcast(0, 2, true);
        x.wind();
        String saved = data(x);
        int seed = seedOf(x);
        promise(64);
        due(6, x::saveSnapshot);
        due(saved, () -> data(x));
        due(true, () -> x.undo() > 0);
        x.addField(1);
        x.abort();
        promise(65);
        due(6, x::restoreSnapshot);
        due(saved, () -> data(x));
        due(seed, () -> seedOf(x));
        due(STATE, x::undo);
        x.addField(1);
        x.setBlocked(0, true);
        due(6, x::restoreSnapshot);
        due(saved, () -> data(x));
        promise(64);
        x.addField(1);
        due(7, x::saveSnapshot);
        x.undo();
        due(6, x::fieldCount);
        promise(65);
        due(7, x::restoreSnapshot);
        due(7, x::fieldCount);
        due(STATE, x::undo);
        DandelionBroadcast failing = line(9, 9);
        failing.startBroadcast(0, 6, true);
        failing.windUntilEnd();
        failing.saveSnapshot();
        String failed = data(failing);
        failing.startBroadcast(0, 6, false);
        failing.windUntilEnd();
        failing.restoreSnapshot();
        due(failed, () -> data(failing));
        // The input, the output, the latest rejection and the latest syntax error are not covered.
        x.writeField(0);
        due(VALUE, () -> run(x, "x"));
        due(REJECTED, () -> x.startBroadcast(0, 1, false));
        x.appendInput('w');
        x.restoreSnapshot();
        due('0', () -> x.outputAt(0));
        due(0, x::syntaxErrorOffset);
        due(5, x::rejectionReason);
        due(2, () -> x.appendInput('i'));
    }
}
