/** A check of its own for each sentence of the promises 1 to 14: fields and paths. */
public final class FieldBoundaries extends Checks {
    private static final int[] NO_DIGITS = {-1, 10, 11, 256, Integer.MIN_VALUE, Integer.MAX_VALUE};

    public static void main(String[] args) {
        newObject();
        addField();
        setShield();
        addPath();
        addPathRefused();
        setGust();
        setBlocked();
        counts();
        shieldOf();
        endsOfPaths();
        costOf();
        gustOf();
        isBlocked();
        finishPromises(1, 14);
    }

    private static void newObject() {
        promise(1);
        sentence("Creates a broadcast without fields.");
        due(0, () -> new DandelionBroadcast().fieldCount());
        due(0, () -> new DandelionBroadcast().pathCount());
        due(0, () -> new DandelionBroadcast().groupCount());
        due(INDEX, () -> new DandelionBroadcast().shieldOf(0));
        due(INDEX, () -> new DandelionBroadcast().costOf(0));
        due(false, () -> new DandelionBroadcast().isBroadcasting());
        due("0 0 0 false 0 0 0 0 0 0 0", () -> totals(new DandelionBroadcast()));
        due("", () -> output(new DandelionBroadcast()));
        due(NONE + " " + NONE + " " + NONE, () -> rejection(new DandelionBroadcast()));
        due(NONE, () -> new DandelionBroadcast().syntaxErrorOffset());
        due(STATE, () -> new DandelionBroadcast().undo());
        due(STATE, () -> new DandelionBroadcast().restoreSnapshot());
        due(0, () -> new DandelionBroadcast().setSeed(3));
        due(1, () -> new DandelionBroadcast().appendInput('w'));
        due(VALUE, () -> new DandelionBroadcast().execute());
        // What another object does is not seen.
        busy();
        due(0, () -> new DandelionBroadcast().setSeed(3));
        due(0, () -> new DandelionBroadcast().fieldCount());
    }

    private static void addField() {
        promise(2);
        sentence("Adds a field without packets.");
        due(1, () -> sending(1, 0, 6, true).addField(0));
        due("0/false", () -> {
            DandelionBroadcast x = sending(1, 0, 6, true);
            x.addField(0);
            return x.packetsOf(1) + "/" + x.isCovered(1);
        });
        due("1/2/false", () -> {
            // Field 2 is undone with its packets, and the one that is added in its place has none.
            DandelionBroadcast x = sending(2, 0, 3, false);
            x.addField(0);
            x.abort();
            x.startBroadcast(2, 3, false);
            x.undo();
            x.undo();
            x.undo();
            x.addField(0);
            return x.coveredCount() + "/" + (x.fieldCount() - 1) + "/" + x.hasPacket(2, 0);
        });

        sentence("- `shield`: the shield of the field, 0 to 9");
        for (int shield = 0; shield <= 9; shield++) {
            int given = shield;
            due(0, () -> new DandelionBroadcast().addField(given));
            due(given, () -> {
                DandelionBroadcast x = new DandelionBroadcast();
                x.addField(given);
                return x.shieldOf(0);
            });
        }

        sentence("Returns the index of the field.");
        for (int count = 0; count < 9; count++) {
            int before = count;
            due(before, () -> fields(before).addField(1));
        }

        sentence("Throws `IllegalArgumentException` if shield is out of range");
        for (int shield : NO_DIGITS) {
            dueThrow(VALUE, Checks::busy, x -> x.addField(shield));
            dueThrow(VALUE, DandelionBroadcast::new, x -> x.addField(shield));
            dueThrow(VALUE, () -> fields(9), x -> x.addField(shield));
        }

        sentence("Throws `UnsupportedOperationException` if the call is rejected with the reason FIELD_LIMIT");
        due(8, () -> fields(8).addField(9));
        dueReject(1, 9, () -> fields(9), x -> x.addField(0));
        dueReject(1, 9, () -> fields(9), x -> x.addField(9));
        dueReject(1, 9, () -> full(16), x -> x.addField(4));
    }

    private static void setShield() {
        promise(3);
        sentence("Sets the shield of a field.");
        due("7 0 0", () -> {
            DandelionBroadcast x = fields(3);
            x.setShield(0, 7);
            return x.shieldOf(0) + " " + x.shieldOf(1) + " " + x.shieldOf(2);
        });

        sentence("- `field`: the index of a field");
        for (int field = 0; field < 9; field++) {
            int index = field;
            due("0 5", () -> {
                DandelionBroadcast x = fields(9);
                return x.setShield(index, 5) + " " + x.shieldOf(index);
            });
        }

        sentence("- `shield`: the new shield, 0 to 9");
        for (int shield = 0; shield <= 9; shield++) {
            int given = shield;
            due(given, () -> {
                DandelionBroadcast x = fields(1);
                x.setShield(0, given);
                return x.shieldOf(0);
            });
        }

        sentence("Returns the previous shield.");
        due("0 9 9 0 3", () -> {
            DandelionBroadcast x = fields(1);
            return x.setShield(0, 9) + " " + x.setShield(0, 9) + " " + x.setShield(0, 0) + " " + x.setShield(0, 3)
                + " " + x.setShield(0, 1);
        });

        sentence("Throws `IndexOutOfBoundsException` if there is no such field");
        noSuchField((x, field) -> x.setShield(field, 1));
        noSuchField((x, field) -> x.setShield(field, 10));

        sentence("Throws `IllegalArgumentException` if shield is out of range");
        for (int shield : NO_DIGITS) {
            dueThrow(VALUE, Checks::busy, x -> x.setShield(0, shield));
            dueThrow(VALUE, Checks::busy, x -> x.setShield(3, shield));
        }
    }

    private static void addPath() {
        promise(4);
        sentence("Adds an open path between two fields.");
        due("1 false 1", () -> {
            DandelionBroadcast x = fields(2);
            x.addPath(0, 1, 1, 0);
            return x.pathCount() + " " + x.isBlocked(0) + " " + x.groupCount();
        });
        due(false, () -> {
            // The place of an undone path that was blocked is taken by an open one.
            DandelionBroadcast x = line(3, 0);
            x.setBlocked(1, true);
            x.undo();
            x.undo();
            x.addPath(0, 2, 1, 0);
            return x.isBlocked(1);
        });

        sentence("- `first`: the index of a field", "- `second`: the index of another field");
        for (int first = 0; first < 9; first++) {
            for (int second = 0; second < 9; second++) {
                if (first != second) {
                    int one = first;
                    int other = second;
                    due("0 " + one + "-" + other, () -> {
                        DandelionBroadcast x = fields(9);
                        return x.addPath(one, other, 1, 0) + " " + x.firstOf(0) + "-" + x.secondOf(0);
                    });
                }
            }
        }

        sentence("- `cost`: the cost, 1 to 9");
        for (int cost = 1; cost <= 9; cost++) {
            int given = cost;
            due("0 " + given, () -> {
                DandelionBroadcast x = fields(2);
                return x.addPath(0, 1, given, 0) + " " + x.costOf(0);
            });
        }

        sentence("- `gust`: the gust, 0 to 9");
        for (int gust = 0; gust <= 9; gust++) {
            int given = gust;
            due("0 " + given, () -> {
                DandelionBroadcast x = fields(2);
                return x.addPath(0, 1, 1, given) + " " + x.gustOf(0);
            });
        }

        sentence("Returns the id of the path.");
        for (int count = 0; count < 16; count++) {
            int before = count;
            due(before, () -> full(before).addPath(8, 7, 1, 0));
        }
    }

    private static void addPathRefused() {
        promise(4);
        sentence("Throws `IndexOutOfBoundsException` if there is no such field, for first or second");
        noSuchField((x, field) -> x.addPath(field, 0, 1, 1));
        noSuchField((x, field) -> x.addPath(0, field, 1, 1));
        noSuchField((x, field) -> x.addPath(field, field, 1, 1));
        noSuchField((x, field) -> x.addPath(field, 0, 0, 10));

        sentence("Throws `IllegalArgumentException` if both fields are the same, or cost or gust is out of range");
        for (int field = 0; field < 4; field++) {
            int same = field;
            dueThrow(VALUE, Checks::busy, x -> x.addPath(same, same, 1, 1));
        }
        for (int wrong : NO_DIGITS) {
            dueThrow(VALUE, Checks::busy, x -> x.addPath(0, 2, wrong, 1));
            dueThrow(VALUE, Checks::busy, x -> x.addPath(0, 2, 1, wrong));
            dueThrow(VALUE, () -> line(2, 0), x -> x.addPath(0, 1, 1, wrong));
            dueThrow(VALUE, () -> full(16), x -> x.addPath(0, 1, wrong, 0));
        }
        dueThrow(VALUE, Checks::busy, x -> x.addPath(0, 2, 0, 1));
        dueThrow(VALUE, () -> full(16), x -> x.addPath(8, 8, 1, 0));
        dueThrow(VALUE, () -> full(16), x -> x.addPath(8, 7, 0, 0));

        sentence("Throws `UnsupportedOperationException` if the call is rejected with the reason PATH_LIMIT or SAME_PATH");
        due(15, () -> full(15).addPath(8, 7, 9, 9));
        dueReject(2, 16, () -> full(16), x -> x.addPath(8, 7, 9, 9));
        dueReject(3, 0, () -> line(2, 0), x -> x.addPath(0, 1, 9, 9));
        dueReject(3, 0, () -> line(2, 0), x -> x.addPath(1, 0, 1, 0));
        dueReject(3, 14, () -> full(15), x -> x.addPath(8, 1, 1, 1));
    }

    private static void setGust() {
        promise(5);
        sentence("Sets the gust of a path.");
        due("4 7 4", () -> {
            DandelionBroadcast x = line(4, 4);
            x.setGust(1, 7);
            return x.gustOf(0) + " " + x.gustOf(1) + " " + x.gustOf(2);
        });

        sentence("- `path`: the id of a path");
        for (int path = 0; path < 16; path++) {
            int id = path;
            due("0 9", () -> {
                DandelionBroadcast x = full(16);
                return x.setGust(id, 9) + " " + x.gustOf(id);
            });
        }

        sentence("- `gust`: the new gust, 0 to 9");
        for (int gust = 0; gust <= 9; gust++) {
            int given = gust;
            due(given, () -> {
                DandelionBroadcast x = line(2, 3);
                x.setGust(0, given);
                return x.gustOf(0);
            });
        }

        sentence("Returns the previous gust.");
        due("3 9 9 0", () -> {
            DandelionBroadcast x = line(2, 3);
            return x.setGust(0, 9) + " " + x.setGust(0, 9) + " " + x.setGust(0, 0) + " " + x.setGust(0, 1);
        });

        sentence("Throws `IndexOutOfBoundsException` if there is no such path");
        noSuchPath((x, path) -> x.setGust(path, 1));
        noSuchPath((x, path) -> x.setGust(path, 10));

        sentence("Throws `IllegalArgumentException` if gust is out of range");
        for (int gust : NO_DIGITS) {
            dueThrow(VALUE, Checks::busy, x -> x.setGust(0, gust));
            dueThrow(VALUE, Checks::busy, x -> x.setGust(3, gust));
        }
    }

    private static void setBlocked() {
        promise(6);
        sentence("Blocks or opens a path.", "- `blocked`: true to block it, false to open it");
        due("false true false", () -> {
            DandelionBroadcast x = line(4, 0);
            x.setBlocked(1, true);
            return x.isBlocked(0) + " " + x.isBlocked(1) + " " + x.isBlocked(2);
        });
        due(false, () -> {
            DandelionBroadcast x = line(4, 0);
            x.setBlocked(1, true);
            x.setBlocked(1, false);
            return x.isBlocked(1);
        });

        sentence("- `path`: the id of a path");
        for (int path = 0; path < 16; path++) {
            int id = path;
            due("1 true 0 false", () -> {
                DandelionBroadcast x = full(16);
                return x.setBlocked(id, true) + " " + x.isBlocked(id) + " " + x.setBlocked(id, false) + " "
                    + x.isBlocked(id);
            });
        }

        sentence("Returns the number of blocked paths after the call.");
        DandelionBroadcast all = full(16);
        for (int path = 0; path < 16; path++) {
            int id = path;
            due(id + 1, () -> all.setBlocked(id, true));
        }
        for (int path = 0; path < 16; path++) {
            int id = path;
            due(15 - id, () -> all.setBlocked(id, false));
        }

        sentence("Throws `IndexOutOfBoundsException` if there is no such path");
        noSuchPath((x, path) -> x.setBlocked(path, true));
        noSuchPath((x, path) -> x.setBlocked(path, false));

        sentence("Throws `UnsupportedOperationException` if the call is rejected with the reason NO_CHANGE");
        dueReject(4, 0, () -> line(2, 0), x -> x.setBlocked(0, false));
        dueReject(4, 1, Checks::busy, x -> x.setBlocked(0, false));
        dueReject(4, 1, Checks::busy, x -> x.setBlocked(3, true));
        dueReject(4, 16, FieldBoundaries::allBlocked, x -> x.setBlocked(15, true));
        dueReject(4, 0, () -> full(16), x -> x.setBlocked(15, false));
    }

    private static DandelionBroadcast allBlocked() {
        DandelionBroadcast x = full(16);
        for (int path = 0; path < 16; path++) {
            x.setBlocked(path, true);
        }
        return x;
    }

    private static void counts() {
        promise(7);
        sentence("Returns the number of fields.");
        for (int count = 0; count <= 9; count++) {
            int fields = count;
            due(fields, () -> fields(fields).fieldCount());
        }
        due(9, () -> full(16).fieldCount());

        promise(8);
        sentence("Returns the number of paths, blocked ones included.", "Returns the number of paths.");
        for (int count = 0; count <= 16; count++) {
            int paths = count;
            due(paths, () -> full(paths).pathCount());
        }
        due(16, () -> allBlocked().pathCount());
        due(0, () -> fields(9).pathCount());
    }

    private static void shieldOf() {
        promise(9);
        sentence("Returns the shield of a field.", "- `field`: the index of a field", "Returns the shield.");
        DandelionBroadcast x = new DandelionBroadcast();
        for (int field = 0; field < 9; field++) {
            x.addField(9 - field);
        }
        for (int field = 0; field < 9; field++) {
            int index = field;
            due(9 - index, () -> x.shieldOf(index));
        }

        sentence("Throws `IndexOutOfBoundsException` if there is no such field");
        noSuchField((y, field) -> y.shieldOf(field));
    }

    /** Sixteen paths that are given with either field first, with costs and gusts of their own; the odd ones blocked. */
    private static DandelionBroadcast manifold() {
        DandelionBroadcast x = fields(9);
        for (int path = 0; path < 16; path++) {
            x.addPath(firstEnd(path), secondEnd(path), path % 9 + 1, path * 7 % 10);
            if (path % 2 == 1) {
                x.setBlocked(path, true);
            }
        }
        return x;
    }

    private static int firstEnd(int path) {
        return path < 8 ? 0 : path < 15 ? path - 6 : 3;
    }

    private static int secondEnd(int path) {
        return path < 8 ? path + 1 : path < 15 ? 1 : 2;
    }

    private static void endsOfPaths() {
        promise(10);
        sentence("Returns the first field of a path, as it was given to addPath.", "- `path`: the id of a path",
            "Returns the index of the field.");
        due("0 8 1 7", () -> {
            DandelionBroadcast x = fields(9);
            x.addPath(0, 8, 1, 0);
            x.addPath(7, 1, 1, 0);
            return x.firstOf(0) + " " + x.secondOf(0) + " " + x.secondOf(1) + " " + x.firstOf(1);
        });
        for (int path = 0; path < 16; path++) {
            int id = path;
            due(firstEnd(id), () -> manifold().firstOf(id));
        }

        sentence("Throws `IndexOutOfBoundsException` if there is no such path");
        noSuchPath((x, path) -> x.firstOf(path));

        promise(11);
        sentence("Returns the second field of a path, as it was given to addPath.", "- `path`: the id of a path",
            "Returns the index of the field.");
        due("8 1", () -> {
            DandelionBroadcast x = fields(9);
            x.addPath(0, 8, 1, 0);
            x.addPath(7, 1, 1, 0);
            return x.secondOf(0) + " " + x.secondOf(1);
        });
        for (int path = 0; path < 16; path++) {
            int id = path;
            due(secondEnd(id), () -> manifold().secondOf(id));
        }

        sentence("Throws `IndexOutOfBoundsException` if there is no such path");
        noSuchPath((x, path) -> x.secondOf(path));
    }

    private static void costOf() {
        promise(12);
        sentence("Returns the cost of a path.", "- `path`: the id of a path", "Returns the cost.");
        for (int path = 0; path < 16; path++) {
            int id = path;
            due(id % 9 + 1, () -> manifold().costOf(id));
        }

        sentence("Throws `IndexOutOfBoundsException` if there is no such path");
        noSuchPath((x, path) -> x.costOf(path));
    }

    private static void gustOf() {
        promise(13);
        sentence("Returns the gust of a path.", "- `path`: the id of a path", "Returns the gust.");
        for (int path = 0; path < 16; path++) {
            int id = path;
            due(id * 7 % 10, () -> manifold().gustOf(id));
        }

        sentence("Throws `IndexOutOfBoundsException` if there is no such path");
        noSuchPath((x, path) -> x.gustOf(path));
    }

    private static void isBlocked() {
        promise(14);
        sentence("Tells whether a path is blocked.", "- `path`: the id of a path", "Returns whether it is blocked.");
        for (int path = 0; path < 16; path++) {
            int id = path;
            due(id % 2 == 1, () -> manifold().isBlocked(id));
        }

        sentence("Throws `IndexOutOfBoundsException` if there is no such path");
        noSuchPath((x, path) -> x.isBlocked(path));
    }
}
