/** A check of its own for each sentence of the promises 15 to 28: ways and spread trees. */
public final class WayBoundaries extends Checks {
    interface PairCall {
        Object on(DandelionBroadcast x, int first, int second);
    }

    public static void main(String[] args) {
        groupCount();
        isConnected();
        wayCosts(17, DandelionBroadcast::wayCost, "Returns the cost of the cheapest way between two fields, found by "
            + "visiting the nearest field again and again.", "Returns the sum of the costs of its paths, 0 from a field "
            + "to itself.");
        wayCosts(18, DandelionBroadcast::wayCostByRounds, "Returns the same cost in a second way: by rounds over all "
            + "open paths that lower the costs of fields.", "Returns the same cost.");
        numbersOfWays(19, DandelionBroadcast::disjointWays, "Returns the greatest number of ways between two fields of "
            + "which no two have an open path in common, found by adding ways and turning back along earlier ones.",
            "Returns the number of ways.");
        numbersOfWays(20, DandelionBroadcast::smallestCut, "Returns the smallest number of open paths that would have "
            + "to be blocked so that there is no way between two fields, found by trying all sets of fields that "
            + "contain the first one and not the second one, and counting the open paths that leave the set.",
            "Returns the number of paths; it is always the same as disjointWays.");
        isBridge();
        bridgeCounts(22, DandelionBroadcast::bridgeCount, "Returns the number of bridges, found by one walk through all "
            + "fields that notes the earliest field to which each part of it leads back.",
            "Returns the number of bridges.");
        bridgeCounts(23, DandelionBroadcast::bridgeCountByBlocking, "Returns the same number in a second way: by "
            + "blocking each open path in turn and counting the groups.", "Returns the same number.");
        treeCosts(24, DandelionBroadcast::treeCost, "Returns the cost of the spread tree of a field, found by going "
            + "through the paths in order.", "Returns the sum of the costs of its paths.");
        treeCosts(25, DandelionBroadcast::treeCostByGrowing, "Returns the same cost in a second way: by growing the "
            + "tree from the field.", "Returns the same cost.");
        isInTree();
        parentIn();
        reachChance();
        finishPromises(15, 28);
    }

    private static void groupCount() {
        promise(15);
        sentence("Returns the number of groups.");
        due(0, () -> new DandelionBroadcast().groupCount());
        for (int count = 1; count <= 9; count++) {
            int fields = count;
            due(fields, () -> fields(fields).groupCount());
            due(1, () -> line(fields, 0).groupCount());
        }
        due(1, () -> full(16).groupCount());
        DandelionBroadcast x = line(9, 0);
        for (int path = 0; path < 8; path++) {
            int id = path;
            due(id + 2, () -> {
                x.setBlocked(id, true);
                return x.groupCount();
            });
        }
        // A line whose ids fall from field 0 on is one group, too.
        due(1, () -> backwards().groupCount());
        due(9, () -> allBlocked().groupCount());
    }

    private static DandelionBroadcast backwards() {
        DandelionBroadcast x = fields(9);
        for (int field = 8; field > 0; field--) {
            x.addPath(field, field - 1, 9, 0);
        }
        return x;
    }

    private static DandelionBroadcast allBlocked() {
        DandelionBroadcast x = full(16);
        for (int path = 0; path < 16; path++) {
            x.setBlocked(path, true);
        }
        return x;
    }

    /** No call of promises 15 to 28 changes anything. */
    private static void changesNothing(Call call) {
        dueLeave(answer(() -> call.on(busy())), Checks::busy, Checks::busy, call,
            Checks::now, Checks::rejection, Checks::hidden, Checks::past);
    }

    private static void isConnected() {
        promise(16);
        sentence("Tells whether two fields belong to the same group.", "Returns whether they do.");
        DandelionBroadcast apart = line(4, 0);
        apart.setBlocked(1, true);
        for (int first = 0; first < 4; first++) {
            for (int second = 0; second < 4; second++) {
                int one = first;
                int other = second;
                due(one / 2 == other / 2, () -> apart.isConnected(one, other));
            }
        }
        changesNothing(x -> x.isConnected(0, 2));
        changesNothing(DandelionBroadcast::groupCount);

        sentence("- `first`: the index of a field");
        for (int field = 0; field < 9; field++) {
            int index = field;
            due(true, () -> backwards().isConnected(index, 8 - index));
            due(index == 8, () -> fields(9).isConnected(index, 8));
        }

        sentence("- `second`: the index of another field, possibly the same");
        for (int field = 0; field < 9; field++) {
            int index = field;
            due(true, () -> fields(9).isConnected(index, index));
            due(true, () -> allBlocked().isConnected(index, index));
            due(true, () -> full(16).isConnected(index, index));
        }
        due(true, () -> fields(1).isConnected(0, 0));

        sentence("Throws `IndexOutOfBoundsException` if there is no such field, for first or second");
        noSuchPair(DandelionBroadcast::isConnected);
    }

    private static void noSuchPair(PairCall call) {
        noSuchField((x, field) -> call.on(x, field, 0));
        noSuchField((x, field) -> call.on(x, 0, field));
        noSuchField((x, field) -> call.on(x, field, field));
    }

    private static void wayCosts(int number, PairCall cost, String does, String returns) {
        promise(number);
        sentence(does);
        // The way with the most paths is the cheapest one, then the one over field 4, then the direct one.
        DandelionBroadcast x = fields(6);
        x.addPath(0, 1, 9, 0);
        x.addPath(0, 2, 2, 0);
        x.addPath(2, 3, 2, 0);
        x.addPath(3, 1, 2, 0);
        x.addPath(1, 4, 3, 0);
        x.addPath(4, 0, 4, 0);
        due(6, () -> cost.on(x, 0, 1));
        x.setBlocked(2, true);
        due(7, () -> cost.on(x, 0, 1));
        due(7, () -> cost.on(x, 1, 0));
        due(4, () -> cost.on(x, 0, 4));
        x.setBlocked(4, true);
        due(9, () -> cost.on(x, 1, 0));
        changesNothing(y -> cost.on(y, 0, 2));

        sentence("- `first`: the index of a field");
        for (int field = 0; field < 9; field++) {
            int index = field;
            due(index * 9, () -> cost.on(backwards(), index, 0));
            due(72 - index * 9, () -> cost.on(backwards(), index, 8));
        }

        sentence("- `second`: the index of another field, possibly the same");
        for (int field = 0; field < 9; field++) {
            int index = field;
            due(index * 9, () -> cost.on(backwards(), 0, index));
            due(72 - index * 9, () -> cost.on(backwards(), 8, index));
            due(0, () -> cost.on(fields(9), index, index));
        }

        sentence(returns);
        due(0, () -> cost.on(fields(1), 0, 0));
        due(0, () -> cost.on(allBlocked(), 8, 8));
        due(0, () -> cost.on(full(16), 3, 3));
        due(1, () -> cost.on(full(16), 0, 8));
        due(2, () -> cost.on(full(16), 4, 8));
        due(72, () -> cost.on(backwards(), 8, 0));

        sentence("Throws `IndexOutOfBoundsException` if there is no such field, for first or second");
        noSuchPair(cost);

        sentence("Throws `NoSuchElementException` if there is no way");
        dueThrow(NONE, () -> fields(2), y -> cost.on(y, 0, 1));
        dueThrow(NONE, Checks::ring, y -> cost.on(y, 0, 5));
        dueThrow(NONE, WayBoundaries::allBlocked, y -> cost.on(y, 0, 1));
        dueThrow(NONE, WayBoundaries::cutInTheMiddle, y -> cost.on(y, 8, 0));
        due(3, () -> cost.on(cutInTheMiddle(), 8, 5));
    }

    private static DandelionBroadcast cutInTheMiddle() {
        DandelionBroadcast x = line(9, 0);
        x.setBlocked(4, true);
        return x;
    }

    private static void numbersOfWays(int number, PairCall count, String does, String returns) {
        promise(number);
        sentence(does);
        // The first way found, 0-1-2-3, bars both disjoint ones, until it is turned back between 1 and 2.
        DandelionBroadcast x = fields(7);
        x.addPath(0, 1, 1, 0);
        x.addPath(1, 2, 1, 0);
        x.addPath(2, 3, 1, 0);
        x.addPath(0, 4, 1, 0);
        x.addPath(4, 2, 1, 0);
        x.addPath(1, 5, 1, 0);
        x.addPath(5, 3, 1, 0);
        due(2, () -> count.on(x, 0, 3));
        due(2, () -> count.on(x, 3, 0));
        due(3, () -> count.on(x, 1, 2));
        due(0, () -> count.on(x, 0, 6));
        x.setBlocked(1, true);
        due(2, () -> count.on(x, 0, 3));
        due(2, () -> count.on(x, 1, 2));
        x.setBlocked(6, true);
        due(1, () -> count.on(x, 0, 3));
        changesNothing(y -> count.on(y, 0, 2));
        // Here a path that was turned back may be taken once more, in either direction.
        due(3, () -> count.on(connected(7, "43 16 02 52 54 64 05 30 04 62 21"), 0, 6));
        due(4, () -> count.on(connected(6, "53 03 25 31 05 41 40 32 45 01"), 0, 5));

        sentence("- `first`: the index of a field");
        for (int field = 2; field < 9; field++) {
            int index = field;
            due(index < 4 ? 3 : 2, () -> count.on(full(16), index, 0));
            due(0, () -> count.on(fields(9), index, 0));
        }

        sentence("- `second`: the index of another field");
        for (int field = 2; field < 9; field++) {
            int index = field;
            due(index < 4 ? 3 : 2, () -> count.on(full(16), 1, index));
            due(1, () -> count.on(backwards(), 0, index));
        }

        sentence(returns);
        due(8, () -> count.on(full(16), 0, 1));
        due(8, () -> count.on(full(16), 1, 0));
        due(1, () -> count.on(line(2, 0), 0, 1));
        due(1, () -> count.on(backwards(), 8, 0));
        due(0, () -> count.on(fields(2), 1, 0));
        due(0, () -> count.on(allBlocked(), 1, 0));
        for (int blocked = 0; blocked < 8; blocked++) {
            int paths = blocked;
            due(8 - paths, () -> {
                // Each path from field 0 that is blocked takes a way to field 1 away.
                DandelionBroadcast y = full(16);
                for (int path = 0; path < paths; path++) {
                    y.setBlocked(path, true);
                }
                return count.on(y, 0, 1);
            });
        }
        sameBothWays(full(16));
        sameBothWays(busy());
        sameBothWays(ring());

        sentence("Throws `IndexOutOfBoundsException` if there is no such field, for first or second");
        noSuchPair(count);

        sentence("Throws `IllegalArgumentException` if both fields are the same");
        for (int field = 0; field < 9; field++) {
            int same = field;
            due(VALUE, () -> count.on(full(16), same, same));
            due(VALUE, () -> count.on(fields(9), same, same));
        }
        dueThrow(VALUE, Checks::busy, y -> count.on(y, 0, 0));
        dueThrow(VALUE, () -> fields(1), y -> count.on(y, 0, 0));
    }

    /** Fields with paths between these pairs. */
    private static DandelionBroadcast connected(int count, String pairs) {
        DandelionBroadcast x = fields(count);
        for (String pair : pairs.split(" ")) {
            x.addPath(pair.charAt(0) - '0', pair.charAt(1) - '0', 1, 0);
        }
        return x;
    }

    private static void sameBothWays(DandelionBroadcast x) {
        for (int first = 0; first < x.fieldCount(); first++) {
            for (int second = 0; second < x.fieldCount(); second++) {
                if (first != second) {
                    int one = first;
                    int other = second;
                    due(x.disjointWays(one, other), () -> x.smallestCut(one, other));
                }
            }
        }
    }

    private static void isBridge() {
        promise(21);
        sentence("Tells whether a path is a bridge: whether it is open, and blocking it would increase the number of "
            + "groups.", "Returns whether it is a bridge.");
        DandelionBroadcast x = ring();
        for (int path = 0; path < 5; path++) {
            int id = path;
            due(id == 4, () -> x.isBridge(id));
        }
        // With a gap in the ring its other paths are bridges; the blocked one is none.
        x.setBlocked(2, true);
        for (int path = 0; path < 5; path++) {
            int id = path;
            due(id != 2, () -> x.isBridge(id));
        }
        x.setBlocked(4, true);
        due(false, () -> x.isBridge(4));
        changesNothing(y -> y.isBridge(0));

        sentence("- `path`: the id of a path");
        for (int path = 0; path < 16; path++) {
            int id = path;
            due(false, () -> full(16).isBridge(id));
            due(false, () -> allBlocked().isBridge(id));
        }
        for (int path = 0; path < 8; path++) {
            int id = path;
            due(true, () -> line(9, 0).isBridge(id));
        }
        due(true, () -> sixteenthIsABridge().isBridge(15));

        sentence("Throws `IndexOutOfBoundsException` if there is no such path");
        noSuchPath((y, path) -> y.isBridge(path));
    }

    /** Fifteen paths between fields 0 to 5, all pairs of them, and one to field 6. */
    private static DandelionBroadcast sixteenthIsABridge() {
        DandelionBroadcast x = fields(9);
        for (int first = 0; first < 6; first++) {
            for (int second = first + 1; second < 6; second++) {
                x.addPath(second, first, 2, 0);
            }
        }
        x.addPath(5, 6, 9, 0);
        return x;
    }

    private static void bridgeCounts(int number, Call count, String does, String returns) {
        promise(number);
        sentence(does);
        // Two rings with a bridge between them, a field that hangs on, and a pair apart.
        DandelionBroadcast x = fields(9);
        int[][] ends = {{0, 1}, {1, 2}, {2, 0}, {2, 3}, {3, 4}, {4, 5}, {5, 3}, {6, 5}, {8, 7}};
        for (int[] pair : ends) {
            x.addPath(pair[0], pair[1], 1, 0);
        }
        due(3, () -> count.on(x));
        x.setBlocked(0, true);
        due(5, () -> count.on(x));
        x.setBlocked(3, true);
        due(4, () -> count.on(x));
        x.setBlocked(0, false);
        due(2, () -> count.on(x));
        changesNothing(count);

        sentence(returns);
        due(0, () -> count.on(new DandelionBroadcast()));
        for (int fields = 1; fields <= 9; fields++) {
            int length = fields;
            due(length - 1, () -> count.on(line(length, 0)));
            due(0, () -> count.on(fields(length)));
        }
        due(8, () -> count.on(backwards()));
        due(0, () -> count.on(full(16)));
        due(0, () -> count.on(allBlocked()));
        due(1, () -> count.on(sixteenthIsABridge()));
        due(8, () -> count.on(full(8)));
        due(6, () -> count.on(full(9)));
        due(0, () -> count.on(full(15)));
        due(7, () -> {
            DandelionBroadcast y = line(9, 0);
            y.setBlocked(4, true);
            return count.on(y);
        });
        due(0, () -> {
            DandelionBroadcast y = line(9, 0);
            y.addPath(8, 0, 1, 0);
            return count.on(y);
        });
    }

    private static void treeCosts(int number, IndexCall cost, String does, String returns) {
        promise(number);
        sentence(does);
        due(8, () -> cost.on(ring(), 0));
        due(8, () -> cost.on(ring(), 2));
        due(7, () -> cost.on(ring(), 4));
        due(8 + 3, () -> {
            DandelionBroadcast x = ring();
            x.setBlocked(1, true);
            return cost.on(x, 1);
        });
        due(5, () -> {
            DandelionBroadcast x = ring();
            x.setBlocked(1, true);
            x.setBlocked(3, true);
            return cost.on(x, 1);
        });
        changesNothing(x -> cost.on(x, 0));

        sentence("- `field`: the index of a field");
        for (int field = 0; field < 9; field++) {
            int index = field;
            due(8, () -> cost.on(full(16), index));
            due(72, () -> cost.on(backwards(), index));
            due(0, () -> cost.on(fields(9), index));
        }

        sentence(returns);
        due(0, () -> cost.on(fields(1), 0));
        due(0, () -> cost.on(allBlocked(), 0));
        due(72, () -> cost.on(backwards(), 4));
        due(5 * 2 + 9, () -> cost.on(sixteenthIsABridge(), 6));
        due(0, () -> cost.on(sixteenthIsABridge(), 7));

        sentence("Throws `IndexOutOfBoundsException` if there is no such field");
        noSuchField(cost);
    }

    private static void isInTree() {
        promise(26);
        sentence("Tells whether a path belongs to the spread tree of a field.", "Returns whether it does.");
        for (int path = 0; path < 5; path++) {
            int id = path;
            due(id < 3, () -> ring().isInTree(0, id));
            due(id < 3, () -> ring().isInTree(3, id));
            due(id == 4, () -> ring().isInTree(4, id));
        }
        due("false true", () -> {
            DandelionBroadcast x = ring();
            x.setBlocked(0, true);
            return x.isInTree(0, 0) + " " + x.isInTree(0, 3);
        });
        changesNothing(x -> x.isInTree(0, 0));

        sentence("- `field`: the index of a field");
        for (int field = 0; field < 9; field++) {
            int index = field;
            due(true, () -> full(16).isInTree(index, 7));
            due(index >= 7, () -> apartAtTheEnd().isInTree(index, 15));
        }

        sentence("- `path`: the id of a path");
        for (int path = 0; path < 16; path++) {
            int id = path;
            due(id < 8, () -> full(16).isInTree(8, id));
            due(false, () -> allBlocked().isInTree(0, id));
        }

        sentence("Throws `IndexOutOfBoundsException` if there is no such field or no such path");
        noSuchField((x, field) -> x.isInTree(field, 0));
        noSuchPath((x, path) -> x.isInTree(0, path));
        noSuchField((x, field) -> x.isInTree(field, 16));
        dueThrow(INDEX, () -> fields(1), x -> x.isInTree(0, 0));
    }

    /** Fields 0 to 6 with fifteen paths, and 7-8 with the sixteenth. */
    private static DandelionBroadcast apartAtTheEnd() {
        DandelionBroadcast x = fields(9);
        for (int first = 0; first < 7; first++) {
            for (int second = first + 1; second < 7 && x.pathCount() < 15; second++) {
                x.addPath(first, second, 1, 0);
            }
        }
        x.addPath(8, 7, 9, 9);
        return x;
    }

    private static void parentIn() {
        promise(27);
        sentence("Returns the parent of a field in the spread tree of another field: the field that is next to it on "
            + "the way to that field by paths of the tree.", "Returns the index of the parent.");
        // The tree of the ring is 0-1-2-3.
        int[][] parents = {{-1, 0, 1, 2}, {1, -1, 1, 2}, {1, 2, -1, 2}, {1, 2, 3, -1}};
        for (int source = 0; source < 4; source++) {
            for (int field = 0; field < 4; field++) {
                int root = source;
                int index = field;
                due(root == index ? NONE : parents[root][index], () -> ring().parentIn(root, index));
            }
        }
        changesNothing(x -> x.parentIn(0, 2));

        sentence("- `source`: the index of the field to which the tree belongs");
        for (int source = 0; source < 9; source++) {
            int root = source;
            due(root == 4 ? NONE : root > 4 ? 5 : 3, () -> backwards().parentIn(root, 4));
        }

        sentence("- `field`: the index of a field");
        for (int field = 1; field < 9; field++) {
            int index = field;
            due(index - 1, () -> backwards().parentIn(0, index));
            due(0, () -> full(16).parentIn(0, index));
        }

        sentence("Throws `IndexOutOfBoundsException` if there is no such field, for source or field");
        noSuchPair(DandelionBroadcast::parentIn);

        sentence("Throws `NoSuchElementException` if field is source, or does not belong to the group of source");
        for (int field = 0; field < 9; field++) {
            int index = field;
            due(NONE, () -> full(16).parentIn(index, index));
            due(NONE, () -> fields(9).parentIn(index, index));
            due(NONE, () -> allBlocked().parentIn(index, 8 - index));
        }
        dueThrow(NONE, Checks::busy, x -> x.parentIn(3, 3));
        dueThrow(NONE, () -> fields(2), x -> x.parentIn(0, 1));
        dueThrow(NONE, Checks::ring, x -> x.parentIn(4, 0));
        dueThrow(NONE, WayBoundaries::cutInTheMiddle, x -> x.parentIn(4, 5));
    }

    private static void reachChance() {
        promise(28);
        sentence("Returns the chance of a field in the spread tree of another field: it is 1.0f for source, and for "
            + "each other field the chance of its parent multiplied by the chance of the path between them.",
            "Returns the chance, computed with floats from source to the field.");
        for (int field = 0; field < 9; field++) {
            int index = field;
            due(1.0f, () -> line(9, 9).reachChance(index, index));
            due(powerOf(3, index), () -> line(9, 7).reachChance(0, index));
            due(powerOf(9, 8 - index), () -> line(9, 1).reachChance(8, index));
        }
        // From the source on, 0.7 * 0.9 * 0.6 and 0.6 * 0.9 * 0.7 need not be the same.
        DandelionBroadcast mixed = fields(4);
        mixed.addPath(0, 1, 1, 3);
        mixed.addPath(1, 2, 1, 1);
        mixed.addPath(2, 3, 1, 4);
        due(7.0f / 10.0f * (9.0f / 10.0f) * (6.0f / 10.0f), () -> mixed.reachChance(0, 3));
        due(6.0f / 10.0f * (9.0f / 10.0f) * (7.0f / 10.0f), () -> mixed.reachChance(3, 0));
        changesNothing(x -> x.reachChance(0, 2));

        sentence("The chance of this path is the number 10 minus the danger of the path for the field, converted to "
            + "float, divided by 10.0f.");
        for (int gust = 0; gust <= 9; gust++) {
            for (int shield = 0; shield <= 9; shield++) {
                int given = gust;
                int own = shield;
                due((float) (10 - Math.max(0, given - own)) / 10.0f, () -> {
                    // The shield of the other field, the source, plays no part.
                    DandelionBroadcast x = line(2, given);
                    x.setShield(0, 9 - own);
                    x.setShield(1, own);
                    return x.reachChance(0, 1);
                });
            }
        }

        sentence("- `source`: the index of the field to which the tree belongs", "- `field`: the index of a field");
        for (int field = 0; field < 9; field++) {
            int index = field;
            due(1.0f, () -> full(16).reachChance(index, 8 - index));
            due(1.0f, () -> fields(9).reachChance(index, index));
        }

        sentence("Throws `IndexOutOfBoundsException` if there is no such field, for source or field");
        noSuchPair(DandelionBroadcast::reachChance);

        sentence("Throws `NoSuchElementException` if field does not belong to the group of source");
        dueThrow(NONE, () -> fields(2), x -> x.reachChance(0, 1));
        dueThrow(NONE, Checks::ring, x -> x.reachChance(4, 0));
        dueThrow(NONE, WayBoundaries::cutInTheMiddle, x -> x.reachChance(8, 4));
        for (int field = 0; field < 8; field++) {
            int index = field;
            due(NONE, () -> allBlocked().reachChance(index, 8));
            due(NONE, () -> fields(9).reachChance(8, index));
        }
    }

    private static float powerOf(int tenths, int times) {
        float chance = 1.0f;
        for (int i = 0; i < times; i++) {
            chance = chance * ((float) tenths / 10.0f);
        }
        return chance;
    }
}
