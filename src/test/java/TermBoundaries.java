import java.util.List;

/** A check of its own for each sentence of the sections "What it is" and "Terms"; those on commands stand apart. */
public final class TermBoundaries extends Checks {
    public static void main(String[] args) {
        calls();
        fieldsAndPaths();
        danger();
        groupsAndWays();
        spreadTrees();
        broadcasts();
        windsOnTheTree();
        sending();
        draws();
        rebuilding();
        endOfBroadcasts();
        rejections();
        changes();
        undoAndSnapshot();
        exceptions();
        furtherRules();
        reasons();
        finish(List.of("What it is", "Fields", "Paths", "Groups and ways", "Spread trees", "Broadcasts", "Winds",
            "Rejections", "Changes", "Exceptions", "Further rules", "The constants"));
    }

    private static void calls() {
        section("What it is");
        sentence("A broadcast of packets over fields: paths with costs and gusts, cheapest ways, disjoint ways and cuts, "
            + "bridges, spread trees, winds that carry packets along a tree and lose some of them by draws, parity "
            + "packets from which a lost packet is rebuilt, forecasts, orders, a command language with syntax errors by "
            + "offset, reasons for rejected calls, undo, and a snapshot.",
            "An object is used for at most 512 calls after it has been made; what later calls answer is free.");
        // 17 calls for the line, 492 for broadcasts, and the last three of 512.
        DandelionBroadcast x = line(9, 0);
        for (int round = 1; round <= 246; round++) {
            int number = round;
            due(number, () -> x.startBroadcast(number % 9, 6, true));
            due(1, x::windUntilEnd);
        }
        due(246 * 56, x::sentCount);
        due(0, x::lossBits);
        due(true, x::isConsistent);
        // 17 calls, 465 for broadcasts that fail, and four more.
        DandelionBroadcast harsh = line(9, 9);
        for (int round = 0; round < 15; round++) {
            harsh.startBroadcast(0, 6, false);
            for (int wind = 0; wind < 30; wind++) {
                harsh.wind();
            }
        }
        due(15, harsh::failedCount);
        due(harsh.sentCount(), harsh::energy);
        due(true, harsh::isConsistent);
    }

    private static void fieldsAndPaths() {
        section("Fields");
        sentence("There are at most 9 fields, numbered from 0 in the order in which they are added; they are never "
            + "removed.");
        DandelionBroadcast x = new DandelionBroadcast();
        for (int field = 0; field < 9; field++) {
            int index = field;
            due(index, () -> x.addField(9 - index));
        }
        due(REJECTED, () -> x.addField(9));
        x.startBroadcast(8, 1, false);
        x.windUntilEnd();
        due(9, x::fieldCount);
        for (int field = 0; field < 9; field++) {
            int index = field;
            due(9 - index, () -> x.shieldOf(index));
        }
        due(INDEX, () -> x.shieldOf(9));

        sentence("A field has a shield from 0 to 9.");
        due("0 9", () -> {
            DandelionBroadcast y = new DandelionBroadcast();
            y.addField(0);
            y.addField(9);
            return y.shieldOf(0) + " " + y.shieldOf(1);
        });
        due("9 0", () -> {
            DandelionBroadcast y = fields(1);
            y.setShield(0, 9);
            int greatest = y.shieldOf(0);
            y.setShield(0, 0);
            return greatest + " " + y.shieldOf(0);
        });
        due("0 9", () -> {
            DandelionBroadcast y = new DandelionBroadcast();
            run(y, "field 0;field 9");
            return y.shieldOf(0) + " " + y.shieldOf(1);
        });
        for (int shield : new int[] {-1, 10}) {
            due(VALUE, () -> new DandelionBroadcast().addField(shield));
            due(VALUE, () -> fields(1).setShield(0, shield));
        }

        section("Paths");
        sentence("There are at most 16 paths.");
        due(15, () -> full(15).addPath(7, 8, 1, 1));
        due(REJECTED, () -> full(16).addPath(7, 8, 1, 1));
        due(REJECTED, () -> {
            // Blocked ones count, too.
            DandelionBroadcast y = full(16);
            y.setBlocked(0, true);
            return y.addPath(7, 8, 1, 1);
        });
        due(16, () -> full(16).pathCount());

        sentence("The first one has the id 0, and each further one the next greater id; they are never removed.");
        for (int path = 0; path < 16; path++) {
            int id = path;
            due(id, () -> full(id).addPath(8, 7, 1, 1));
        }
        due(2, () -> {
            // The id of a blocked path is not given again.
            DandelionBroadcast y = line(3, 0);
            y.setBlocked(0, true);
            return y.addPath(0, 2, 1, 1);
        });
        due("0-1 1-2", () -> {
            DandelionBroadcast y = line(3, 0);
            y.setBlocked(0, true);
            y.setBlocked(1, true);
            return y.firstOf(0) + "-" + y.secondOf(0) + " " + y.firstOf(1) + "-" + y.secondOf(1);
        });

        sentence("A path connects two different fields, and there is at most one path between the same two fields, in "
            + "whichever order they are given.");
        for (int field = 0; field < 9; field++) {
            int same = field;
            due(VALUE, () -> fields(9).addPath(same, same, 1, 1));
        }
        due(REJECTED, () -> line(2, 0).addPath(0, 1, 1, 1));
        due(REJECTED, () -> line(2, 0).addPath(1, 0, 1, 1));
        due(REJECTED, () -> line(9, 0).addPath(8, 7, 9, 9));
        due(REJECTED, () -> {
            DandelionBroadcast y = line(2, 0);
            y.setBlocked(0, true);
            return y.addPath(1, 0, 1, 1);
        });
        due(2, () -> line(3, 0).addPath(2, 0, 1, 1));

        sentence("A path has a cost and a gust, and is open or blocked, and open at first.");
        for (int path = 0; path < 16; path++) {
            int id = path;
            due(false, () -> full(16).isBlocked(id));
        }
        due("4 7 false true", () -> {
            DandelionBroadcast y = fields(3);
            y.addPath(0, 1, 4, 7);
            boolean first = y.isBlocked(0);
            y.setBlocked(0, true);
            return y.costOf(0) + " " + y.gustOf(0) + " " + first + " " + y.isBlocked(0);
        });
        due(false, () -> {
            DandelionBroadcast y = line(2, 0);
            y.setBlocked(0, true);
            run(y, "field 1;path 2-0 1 1");
            return y.isBlocked(1);
        });
    }

    private static void danger() {
        sentence("The danger of a path for a field is the gust minus the shield of the field, or 0 if this is negative.");
        for (int gust = 0; gust <= 9; gust++) {
            for (int shield = 0; shield <= 9; shield++) {
                int given = gust;
                int own = shield;
                int danger = given > own ? given - own : 0;
                due((float) (10 - danger) / 10.0f, () -> {
                    DandelionBroadcast x = line(2, given);
                    x.setShield(1, own);
                    return x.reachChance(0, 1);
                });
                due(harmlessDraws(danger), () -> arrivalsOfAllSeeds(given, own));
            }
        }
    }

    /** Each number from 0 to 511 is drawn after one of the seeds. */
    private static int harmlessDraws(int danger) {
        int harmless = 0;
        for (int draw = 0; draw < 512; draw++) {
            if (draw % 10 >= danger) {
                harmless++;
            }
        }
        return harmless;
    }

    private static int arrivalsOfAllSeeds(int gust, int shield) {
        int arrivals = 0;
        for (int seed = 0; seed < 512; seed++) {
            DandelionBroadcast x = line(2, gust);
            x.setShield(1, shield);
            x.setSeed(seed);
            x.startBroadcast(0, 1, false);
            arrivals += x.wind();
        }
        return arrivals;
    }

    private static void groupsAndWays() {
        section("Groups and ways");
        sentence("A way between two fields is a sequence of open paths that leads from one to the other.");
        due(2, () -> line(3, 0).wayCost(0, 2));
        due(2, () -> line(3, 0).wayCost(2, 0));
        due(NONE, () -> cut().wayCost(0, 2));
        due(NONE, () -> cut().wayCostByRounds(2, 0));
        due(0, () -> cut().disjointWays(0, 2));
        due(1, () -> cut().wayCost(1, 0));
        due("2 9", () -> {
            // A cheaper way over a blocked path is none.
            DandelionBroadcast x = line(3, 0);
            x.addPath(0, 2, 9, 0);
            int before = x.wayCost(0, 2);
            x.setBlocked(1, true);
            return before + " " + x.wayCost(0, 2);
        });

        sentence("Two fields belong to the same group if there is a way between them; a field always belongs to the same "
            + "group as itself.");
        due(true, () -> line(9, 0).isConnected(0, 8));
        due(true, () -> line(9, 0).isConnected(8, 0));
        due(false, () -> cut().isConnected(0, 2));
        due(true, () -> cut().isConnected(0, 1));
        for (int field = 0; field < 9; field++) {
            int index = field;
            due(true, () -> fields(9).isConnected(index, index));
        }
        due(true, () -> cut().isConnected(2, 2));
        due(2, () -> cut().groupCount());
    }

    /** 0-1, and 2 behind a blocked path. */
    private static DandelionBroadcast cut() {
        DandelionBroadcast x = line(3, 0);
        x.setBlocked(1, true);
        return x;
    }

    private static DandelionBroadcast triangle(int first, int second, int third) {
        DandelionBroadcast x = fields(3);
        x.addPath(0, 1, first, 0);
        x.addPath(1, 2, second, 0);
        x.addPath(2, 0, third, 0);
        return x;
    }

    private static String treeOf(DandelionBroadcast x, int field) {
        StringBuilder text = new StringBuilder();
        for (int path = 0; path < x.pathCount(); path++) {
            if (x.isInTree(field, path)) {
                text.append(path).append(' ');
            }
        }
        return text.toString();
    }

    private static String parentsIn(DandelionBroadcast x, int source) {
        StringBuilder text = new StringBuilder();
        for (int field = 0; field < x.fieldCount(); field++) {
            int index = field;
            Object parent = answer(() -> x.parentIn(source, index));
            text.append(parent instanceof Integer ? parent : "-");
        }
        return text.toString();
    }

    private static void spreadTrees() {
        section("Spread trees");
        sentence("Paths are in order by their costs, and paths of the same cost by their ids, the lower one first.");
        due("0 1 ", () -> treeOf(triangle(1, 1, 1), 0));
        due("0 1 ", () -> treeOf(triangle(9, 9, 9), 2));
        due("1 2 ", () -> treeOf(triangle(3, 2, 1), 0));
        due("1 2 ", () -> treeOf(triangle(3, 2, 2), 1));
        due("0 2 ", () -> treeOf(triangle(2, 2, 1), 1));
        due("0 1 ", () -> treeOf(triangle(1, 2, 2), 2));
        due("0 2 ", () -> treeOf(triangle(1, 9, 8), 2));

        sentence("The spread tree of a field consists of open paths between fields of its group: all open paths of the "
            + "group are visited in this order, and a path belongs to the tree if its two fields are not connected by "
            + "the paths that have been taken before.");
        due("0 1 2 ", () -> treeOf(ring(), 0));
        due("0 1 2 ", () -> treeOf(ring(), 3));
        due("4 ", () -> treeOf(ring(), 5));
        due("1 2 3 ", () -> {
            DandelionBroadcast x = ring();
            x.setBlocked(0, true);
            return treeOf(x, 0);
        });
        due("1 2 ", () -> {
            DandelionBroadcast x = ring();
            x.setBlocked(0, true);
            x.setBlocked(3, true);
            return treeOf(x, 3);
        });
        due("", () -> treeOf(fields(1), 0));
        due("", () -> treeOf(cut(), 2));
        due("0 1 2 3 4 5 6 7 ", () -> treeOf(full(16), 8));

        sentence("Grown from the field, the same tree is found by taking again and again the first path in this order "
            + "that connects a field that is reached to a field that is not reached yet.");
        due("-012--", () -> parentsIn(ring(), 0));
        due("1-12--", () -> parentsIn(ring(), 1));
        due("123---", () -> parentsIn(ring(), 3));
        due("----5-", () -> parentsIn(ring(), 5));
        due("-000000", () -> parentsIn(starBehindALine(), 0).substring(0, 7));
        for (int field = 0; field < 6; field++) {
            int index = field;
            due(ring().treeCost(index), () -> ring().treeCostByGrowing(index));
        }
        due("-00", () -> parentsIn(triangle(1, 3, 2), 0));
        due("-01", () -> parentsIn(triangle(1, 2, 2), 0));

        sentence("The depth of a field is the number of paths of the tree between it and the field to which the tree "
            + "belongs.");
        for (int field = 0; field < 9; field++) {
            int depth = field;
            float chance = 1.0f;
            for (int i = 0; i < depth; i++) {
                chance = chance * (5.0f / 10.0f);
            }
            float want = chance;
            due(want, () -> line(9, 5).reachChance(0, depth));
        }
        due(2, () -> {
            // Field 1 has the depth 2 here, so it is visited after field 2, from which it gets the packet.
            DandelionBroadcast x = fields(3);
            x.addPath(0, 2, 1, 0);
            x.addPath(2, 1, 1, 0);
            x.startBroadcast(0, 1, false);
            return x.wind();
        });
    }

    /** Each field is next to field 0, and the paths between the others are dearer. */
    private static DandelionBroadcast starBehindALine() {
        DandelionBroadcast x = fields(7);
        for (int field = 1; field < 6; field++) {
            x.addPath(field, field + 1, 3, 0);
        }
        for (int field = 6; field > 0; field--) {
            x.addPath(field, 0, 2, 0);
        }
        return x;
    }

    private static void broadcasts() {
        section("Broadcasts");
        sentence("At most one broadcast has not ended.");
        for (int field = 0; field < 3; field++) {
            int index = field;
            due(REJECTED, () -> sending(3, 0, 2, true).startBroadcast(index, 1, false));
        }
        due("2 3 1 4", () -> {
            // The next one can be started when one has succeeded, has failed, or was aborted.
            DandelionBroadcast x = sending(9, 0, 6, false);
            x.wind();
            int second = x.startBroadcast(0, 6, false);
            x.abort();
            for (int path = 0; path < 8; path++) {
                x.setGust(path, 9);
            }
            int third = x.startBroadcast(0, 6, false);
            x.windUntilEnd();
            return second + " " + third + " " + x.failedCount() + " " + x.startBroadcast(0, 6, false);
        });

        sentence("A broadcast has a source, data packets with the numbers from 0, and a parity packet or not; the parity "
            + "packet has the next number after them.");
        for (int packets = 1; packets <= 6; packets++) {
            int data = packets;
            for (int packet = 0; packet < data; packet++) {
                int number = packet;
                due(true, () -> sending(1, 0, data, false).hasPacket(0, number));
            }
            due(NONE, () -> sending(1, 0, data, false).hasPacket(0, data));
            due(true, () -> sending(1, 0, data, true).hasPacket(0, data));
            due(NONE, () -> sending(1, 0, data, true).hasPacket(0, data + 1));
            due(NONE, () -> sending(1, 0, data, true).hasPacket(0, -1));
        }

        sentence("When a broadcast is started, the source has all its packets, and all other fields have none of them; "
            + "packets of earlier broadcasts are forgotten.");
        for (int source = 0; source < 9; source++) {
            int index = source;
            due("7 0 1", () -> {
                // All fields have all packets of the earlier broadcast.
                DandelionBroadcast x = sending(9, 0, 6, true);
                x.wind();
                x.startBroadcast(index, 6, true);
                int others = 0;
                for (int field = 0; field < 9; field++) {
                    others += field == index ? 0 : x.packetsOf(field);
                }
                return x.packetsOf(index) + " " + others + " " + x.coveredCount();
            });
        }
        due("1/1", () -> {
            DandelionBroadcast x = sending(2, 0, 6, true);
            x.wind();
            x.startBroadcast(1, 1, false);
            return x.packetsOf(1) + "/" + x.coveredCount();
        });

        sentence("The data stay as they are when it ends.");
        due("7 7 9 0", () -> {
            DandelionBroadcast x = sending(9, 0, 6, true);
            x.wind();
            return x.packetsOf(0) + " " + x.packetsOf(8) + " " + x.coveredCount() + " " + x.source();
        });
        due("##...", () -> {
            DandelionBroadcast x = line(2, 5);
            x.setSeed(seedFor(5, "##..."));
            x.startBroadcast(0, 5, false);
            x.wind();
            x.abort();
            return written(x, 1).substring(4);
        });
        due(true, () -> {
            DandelionBroadcast x = sending(9, 9, 6, false);
            for (int winds = 0; winds < 29; winds++) {
                x.wind();
            }
            int before = x.packetsOf(1);
            x.wind();
            return x.packetsOf(1) >= before && x.packetsOf(0) == 6 && !x.isBroadcasting();
        });
    }

    private static void windsOnTheTree() {
        section("Winds");
        sentence("When a wind blows, the spread tree of the source, as it is now, is used.");
        due("1 0 1", () -> {
            // The path by which field 1 is reached is blocked before the wind; the dearer way is used.
            DandelionBroadcast x = triangle(1, 5, 5);
            x.startBroadcast(0, 1, false);
            x.setBlocked(0, true);
            x.wind();
            return x.useOf(1) + " " + x.useOf(0) + " " + x.useOf(2);
        });
        due("0 2 1", () -> {
            // A cheaper path that is added between two winds takes the place of the dear one.
            DandelionBroadcast x = fields(3);
            x.addPath(0, 1, 9, 9);
            x.setSeed(seedFor(9, "."));
            x.startBroadcast(0, 1, false);
            int arrived = x.wind();
            x.addPath(0, 2, 1, 0);
            x.addPath(2, 1, 1, 0);
            return arrived + " " + x.wind() + " " + x.useOf(0);
        });
        due("1 1", () -> {
            DandelionBroadcast x = line(3, 0);
            x.startBroadcast(0, 1, false);
            x.setBlocked(1, true);
            return x.wind() + " " + x.finishedCount();
        });

        sentence("Its fields, except the source, are visited in the order of their depths, and fields of the same depth "
            + "in the order of their indices.");
        // One packet each for two fields: the one that is visited first gets the first draw.
        for (String fates : new String[] {"#.", ".#"}) {
            due(fates.equals("#."), () -> {
                // Of the same depth, the lower index is first, whatever the ids and costs of the paths are.
                DandelionBroadcast x = fields(3);
                x.addPath(0, 2, 1, 5);
                x.addPath(0, 1, 9, 5);
                x.setSeed(seedFor(5, fates));
                x.startBroadcast(0, 1, false);
                x.wind();
                return x.isCovered(1);
            });
            due(fates.equals("#."), () -> {
                // Field 1 has the first draw, and then field 2 is ahead of field 3, which is behind field 1.
                DandelionBroadcast x = fields(4);
                x.addPath(0, 1, 1, 0);
                x.addPath(1, 3, 1, 5);
                x.addPath(0, 2, 9, 5);
                x.setSeed(seedForSecondAndThird(fates));
                x.startBroadcast(0, 1, false);
                x.wind();
                return x.isCovered(2);
            });
        }
        due(8, () -> {
            // Down the longest tree, whose depths rise as the indices fall.
            DandelionBroadcast x = line(9, 0);
            x.startBroadcast(8, 1, false);
            return x.wind();
        });
        due(1, () -> {
            DandelionBroadcast x = line(9, 0);
            x.startBroadcast(8, 1, false);
            x.wind();
            return x.useOf(0);
        });
    }

    /** A seed after which the second and the third draw have these fates with the danger 5. */
    private static int seedForSecondAndThird(String fates) {
        for (int seed = 0; seed < 512; seed++) {
            int second = nextSeed(nextSeed(seed));
            if ((second % 10 >= 5) == (fates.charAt(0) == '#') && (nextSeed(second) % 10 >= 5) == (fates.charAt(1) == '#')) {
                return seed;
            }
        }
        throw new IllegalStateException("no such seed");
    }

    private static void sending() {
        sentence("For each visited field, every packet that its parent has, and it does not have, is sent along the path "
            + "between them, in ascending order.");
        for (String fates : new String[] {"#.....", ".....#", "##..#.", "......", "######"}) {
            due("1s0:" + fates + (fates.contains(".") ? "" : "!"), () -> {
                DandelionBroadcast x = line(2, 5);
                x.setSeed(seedFor(5, fates));
                x.startBroadcast(0, 6, false);
                x.wind();
                return written(x, 1);
            });
        }
        due("5 1 1", () -> {
            // Packet 1 is at field 1 only, and packets 0 and 2 are sent to it once more.
            DandelionBroadcast x = line(3, 5);
            x.setGust(1, 0);
            x.setSeed(seedFor(5, ".#."));
            x.startBroadcast(0, 3, false);
            x.wind();
            int first = x.useOf(1);
            x.setSeed(seedFor(5, ".."));
            x.wind();
            return x.useOf(0) + " " + first + " " + x.useOf(1);
        });
        due("3 3", () -> {
            // When a field has everything, nothing is sent to it.
            DandelionBroadcast x = fields(3);
            x.addPath(0, 1, 1, 0);
            x.addPath(0, 2, 1, 9);
            x.setSeed(seedFor(9, "...."));
            x.startBroadcast(0, 3, false);
            x.wind();
            int before = x.useOf(0);
            x.wind();
            return before + " " + x.useOf(0);
        });
        due(0, () -> {
            DandelionBroadcast x = fields(1);
            x.startBroadcast(0, 6, true);
            x.wind();
            return x.sentCount();
        });

        sentence("Sending needs as much energy as the cost of the path.");
        for (int cost = 1; cost <= 9; cost++) {
            int given = cost;
            for (String fates : new String[] {"..", "#.", "##"}) {
                due(2 * given, () -> {
                    DandelionBroadcast x = fields(2);
                    x.addPath(0, 1, given, 5);
                    x.setSeed(seedFor(5, fates));
                    x.startBroadcast(0, 2, false);
                    x.wind();
                    return x.energy();
                });
            }
        }
    }

    private static void draws() {
        sentence("Then a number is drawn: the seed, multiplied by 61, plus 17, modulo 512; this number is the new seed, "
            + "which is 0 at first.");
        due(0, () -> new DandelionBroadcast().setSeed(1));
        due(17, () -> {
            DandelionBroadcast x = sending(2, 0, 1, false);
            x.wind();
            return x.setSeed(0);
        });
        for (int seed = 0; seed < 512; seed++) {
            int given = seed;
            due((given * 61 + 17) % 512, () -> {
                // Also for a path without danger a number is drawn.
                DandelionBroadcast x = sending(2, given % 10, 1, false);
                x.setSeed(given);
                x.wind();
                return x.setSeed(0);
            });
        }
        due(nextSeed(nextSeed(nextSeed(8))), () -> {
            DandelionBroadcast x = sending(2, 9, 3, false);
            x.setSeed(8);
            x.wind();
            return x.setSeed(0);
        });
        due(8, () -> {
            // Where nothing is sent, and in a forecast, nothing is drawn.
            DandelionBroadcast x = sending(1, 0, 6, true);
            x.setSeed(8);
            x.wind();
            x.startBroadcast(0, 1, true);
            x.windsLeft();
            x.energyLeft();
            return x.setSeed(0);
        });
        due(0, () -> {
            DandelionBroadcast x = sending(9, 9, 6, true);
            x.windsLeft();
            x.energyLeft();
            return x.setSeed(1);
        });

        sentence("If it modulo 10 is less than the danger of the path for the visited field, the packet is lost; "
            + "otherwise it arrives, and the field has it.");
        for (int danger = 0; danger <= 9; danger++) {
            for (int seed = 0; seed < 512; seed++) {
                int given = danger;
                int first = seed;
                boolean lost = nextSeed(first) % 10 < given;
                due(lost ? "0 1 0" : "1 0 1", () -> {
                    DandelionBroadcast x = sending(2, given, 1, false);
                    x.setSeed(first);
                    return x.wind() + " " + x.lostCount() + " " + x.packetsOf(1);
                });
            }
        }
        due("1 0", () -> {
            // The shield of the visited field is what counts, in either direction of the path.
            DandelionBroadcast x = line(2, 9);
            x.setShield(1, 9);
            x.setSeed(seedFor(9, "."));
            x.startBroadcast(0, 1, false);
            int there = x.wind();
            x.setSeed(seedFor(9, "."));
            x.startBroadcast(1, 1, false);
            return there + " " + x.wind();
        });
    }

    /** As many packets as there are fates; the last one is the parity packet if there is one. */
    private static DandelionBroadcast afterFates(String fates, boolean parity) {
        DandelionBroadcast x = line(2, 5);
        x.setSeed(seedFor(5, fates));
        x.startBroadcast(0, fates.length() - (parity ? 1 : 0), parity);
        x.wind();
        return x;
    }

    private static void rebuilding() {
        sentence("When all fields have been visited, and there is a parity packet, each field of the group that lacks "
            + "exactly one packet of the broadcast, the parity packet included, rebuilds it, and has it.");
        String[] fates = {"###", "##.", "#.#", ".##", "#..", ".#.", "..#", "...", "#######", "######.", ".######",
            "##.####", ".#####.", "#.", ".#", "..", "##"};
        for (String fate : fates) {
            int lacking = fate.replace("#", "").length();
            due(lacking == 1 ? fate.length() : fate.length() - lacking, () -> afterFates(fate, true).packetsOf(1));
            due(lacking == 1 ? 1 : 0, () -> afterFates(fate, true).rebuiltCount());
            if (fate.length() < 7) {
                // Without a parity packet nothing is rebuilt.
                due(fate.length() - lacking, () -> afterFates(fate, false).packetsOf(1));
                due(0, () -> afterFates(fate, false).rebuiltCount());
            }
        }
        due("3 1", () -> {
            // The field with the index 0, too, if it is not the source.
            DandelionBroadcast x = line(2, 5);
            x.setSeed(seedFor(5, "##."));
            x.startBroadcast(1, 2, true);
            x.wind();
            return x.packetsOf(0) + " " + x.rebuiltCount();
        });
        due("2 true true", () -> {
            // Several fields rebuild in the same wind, each the packet that it lacks.
            DandelionBroadcast x = fields(3);
            x.addPath(0, 1, 1, 5);
            x.addPath(0, 2, 1, 5);
            x.setSeed(seedFor(5, ".##" + "##."));
            x.startBroadcast(0, 2, true);
            x.wind();
            return x.rebuiltCount() + " " + x.isCovered(1) + " " + x.isCovered(2);
        });
        due("0 0", () -> {
            // A field of another group has nothing, and rebuilds nothing.
            DandelionBroadcast x = sending(1, 0, 1, true);
            x.addField(0);
            x.wind();
            return x.packetsOf(1) + " " + x.rebuiltCount();
        });
        due("0 1 1", () -> {
            // It counts what is lacking when all fields have been visited, in the next wind, too.
            DandelionBroadcast x = afterFates("#..", true);
            int before = x.rebuiltCount();
            x.setSeed(seedFor(5, ".#"));
            return before + " " + x.wind() + " " + x.rebuiltCount();
        });

        sentence("Then the wind is over.");
        for (int winds = 0; winds < 30; winds++) {
            int blown = winds;
            due(blown, () -> {
                DandelionBroadcast x = sending(9, 9, 6, true);
                for (int i = 0; i < blown; i++) {
                    x.wind();
                }
                return x.abort();
            });
        }
    }

    /** Nine fields in a line with the greatest danger, after this many winds. */
    private static DandelionBroadcast blown(int winds) {
        DandelionBroadcast x = sending(9, 9, 6, false);
        for (int i = 0; i < winds; i++) {
            x.wind();
        }
        return x;
    }

    private static DandelionBroadcast calmed(DandelionBroadcast x) {
        for (int path = 0; path < x.pathCount(); path++) {
            x.setGust(path, 0);
        }
        return x;
    }

    private static String end(DandelionBroadcast x) {
        return x.isBroadcasting() + " " + x.finishedCount() + " " + x.failedCount();
    }

    private static String endAfterWind(DandelionBroadcast x) {
        x.wind();
        return end(x);
    }

    private static void endOfBroadcasts() {
        sentence("If all fields of the group of the source are covered then, the broadcast ends, and has succeeded.");
        due("false 1 0", () -> endAfterWind(sending(1, 0, 6, true)));
        due("false 1 0", () -> endAfterWind(sending(9, 0, 6, true)));
        due("false 1 0", () -> end(afterFates("##", false)));
        due("true 0 0", () -> end(afterFates("#.", false)));
        due("true 0 0", () -> end(afterFates("#..", true)));
        due("true 0 0", () -> {
            DandelionBroadcast x = line(2, 5);
            x.setSeed(seedFor(5, "#."));
            x.startBroadcast(1, 2, false);
            return endAfterWind(x);
        });
        // By the rebuilt packet a field is covered in this wind already.
        due("false 1 0", () -> end(afterFates(".##", true)));
        due("false 1 0", () -> end(afterFates("##.", true)));
        due("true 0 0", () -> endAfterWind(lastFieldCutOff(false)));
        due("false 1 0", () -> endAfterWind(lastFieldCutOff(true)));
        // In the thirtieth wind, too, a broadcast can succeed, and then it has not failed.
        due("false 1 0", () -> endAfterWind(calmed(blown(29))));
        due("false 1 0", () -> {
            DandelionBroadcast x = blown(29);
            x.setBlocked(0, true);
            return endAfterWind(x);
        });

        sentence("Otherwise it ends, and has failed, if 30 winds blew for it.");
        due("true 0 0", () -> end(blown(29)));
        due("false 0 1", () -> end(blown(30)));
        due("30 false 0 1", () -> {
            DandelionBroadcast x = blown(0);
            return x.windUntilEnd() + " " + end(x);
        });
        due("1 false 0 1", () -> {
            DandelionBroadcast x = blown(29);
            return x.windUntilEnd() + " " + end(x);
        });
        due("true 0 0", () -> {
            // The winds of an earlier broadcast do not count for the next one.
            DandelionBroadcast x = blown(29);
            x.abort();
            x.startBroadcast(0, 6, false);
            return endAfterWind(x);
        });
        due("false 0 2", () -> {
            DandelionBroadcast x = blown(30);
            x.startBroadcast(8, 6, true);
            x.windUntilEnd();
            return end(x);
        });
        due("true 0 0 1", () -> {
            DandelionBroadcast x = blown(30);
            x.undo();
            return end(x) + " " + x.windsLeft();
        });
    }

    /** Field 1 is covered, and field 2 is not: either behind an open path that loses the packet, or cut off. */
    private static DandelionBroadcast lastFieldCutOff(boolean off) {
        DandelionBroadcast x = line(3, 0);
        x.setGust(1, 9);
        if (off) {
            x.setBlocked(1, true);
        }
        x.setSeed(secondDrawIsNot9());
        x.startBroadcast(0, 1, false);
        return x;
    }

    private static int secondDrawIsNot9() {
        int seed = 0;
        while (nextSeed(nextSeed(seed)) % 10 == 9) {
            seed++;
        }
        return seed;
    }

    private static void rejections() {
        section("Rejections");
        sentence("A call is rejected for the first reason that applies, in the order in which its method names them.");
        dueReject(2, 16, () -> full(16), x -> x.addPath(0, 1, 1, 1));
        dueReject(2, 16, () -> full(16), x -> x.addPath(3, 2, 1, 1));
        dueReject(3, 0, () -> full(15), x -> x.addPath(0, 1, 1, 1));
        due(2, () -> {
            DandelionBroadcast x = full(16);
            answer(() -> run(x, "path 1-0 1 1"));
            return x.causeReason();
        });

        sentence("Every reason is a constant, and has a detail that is described there.");
        due("1 2 3 4 5 6 7", () -> DandelionBroadcast.FIELD_LIMIT + " " + DandelionBroadcast.PATH_LIMIT + " "
            + DandelionBroadcast.SAME_PATH + " " + DandelionBroadcast.NO_CHANGE + " " + DandelionBroadcast.BROADCASTING
            + " " + DandelionBroadcast.NO_BROADCAST + " " + DandelionBroadcast.COMMAND_REJECTED);
        due(9, () -> {
            DandelionBroadcast x = fields(9);
            answer(() -> x.addField(1));
            return x.rejectionDetail();
        });

        sentence("A rejected call changes nothing but the latest rejection.");
        dueReject(1, 9, TermBoundaries::busyWithNineFields, x -> x.addField(1));
        dueReject(3, 1, Checks::busy, x -> x.addPath(1, 2, 1, 1));
        dueReject(4, 1, Checks::busy, x -> x.setBlocked(3, true));
        dueReject(4, 1, Checks::busy, x -> x.setBlocked(2, false));
        dueReject(5, 1, Checks::busy, x -> x.startBroadcast(0, 1, true));
        dueReject(6, 2, TermBoundaries::busyAborted, DandelionBroadcast::wind);
        dueReject(6, 2, TermBoundaries::busyAborted, DandelionBroadcast::windUntilEnd);
        dueReject(6, 2, TermBoundaries::busyAborted, DandelionBroadcast::abort);
        dueReject(2, 16, () -> full(16), x -> x.addPath(8, 7, 1, 1));
        due("3 14", () -> {
            // Only the latest one is told.
            DandelionBroadcast x = full(15);
            answer(x::wind);
            answer(() -> x.addField(1));
            answer(() -> x.addPath(8, 1, 1, 1));
            return x.rejectionReason() + " " + x.rejectionDetail();
        });
    }

    private static DandelionBroadcast busyWithNineFields() {
        DandelionBroadcast x = busy();
        for (int field = 4; field < 9; field++) {
            x.addField(field);
        }
        return x;
    }

    private static DandelionBroadcast busyAborted() {
        DandelionBroadcast x = busy();
        x.abort();
        return x;
    }

    /** After it no change can be undone. */
    private static DandelionBroadcast withoutPast(DandelionBroadcast x) {
        x.saveSnapshot();
        x.restoreSnapshot();
        return x;
    }

    /** The calls that are changes, by number; if it can be, one after which nothing is different. */
    private static Object change(DandelionBroadcast x, int number) {
        switch (number) {
            case 0: return x.addField(3);
            case 1: return x.setShield(0, 0);
            case 2: return x.addPath(0, 2, 1, 0);
            case 3: return x.setGust(0, 5);
            case 4: return x.setBlocked(0, true);
            case 5: return x.setSeed(0);
            case 6: return x.abort();
            case 7: return x.startBroadcast(0, 2, true);
            case 8: return x.wind();
            case 9: return x.windUntilEnd();
            case 10: return run(x, "seed 0");
            default: return run(x, "field 1;shield 0 4;block 1;gust 0 1;send 1 3;wind;seed 1");
        }
    }

    private static final int CHANGES = 12;

    /** A line of three fields, with a broadcast if the change needs one. */
    private static DandelionBroadcast aheadOf(int number) {
        DandelionBroadcast x = line(3, 5);
        if (number == 6 || number == 8 || number == 9) {
            x.startBroadcast(0, 2, true);
        }
        return x;
    }

    private static void changes() {
        section("Changes");
        sentence("A change is a call of addField, setShield, addPath, setGust, setBlocked, setSeed, startBroadcast, wind, "
            + "windUntilEnd, abort or execute that returns a value, also if nothing is different after it.");
        for (int number = 0; number < CHANGES; number++) {
            int which = number;
            due("0 " + STATE, () -> {
                DandelionBroadcast x = withoutPast(aheadOf(which));
                change(x, which);
                return x.undo() + " " + answer(x::undo);
            });
            due("1 0 " + STATE, () -> {
                DandelionBroadcast x = withoutPast(aheadOf(which));
                x.setSeed(7);
                change(x, which);
                return x.undo() + " " + x.undo() + " " + answer(x::undo);
            });
        }
        due("7 0 9", () -> {
            // Eight changes without a difference leave none that makes one.
            DandelionBroadcast x = line(2, 5);
            x.setShield(0, 9);
            for (int i = 0; i < 2; i++) {
                x.setShield(0, 9);
                x.setGust(0, 5);
                x.setSeed(0);
                run(x, "seed 0");
            }
            int first = x.undo();
            int last = first;
            for (int i = 0; i < 7; i++) {
                last = x.undo();
            }
            return first + " " + last + " " + x.shieldOf(0);
        });
        due(STATE, () -> afterLooking(withoutPast(busy())).undo());
        due(STATE, () -> afterThrowing(withoutPast(busy())).undo());

        sentence("The latest 8 changes can be undone.");
        for (int changes = 0; changes <= 10; changes++) {
            int made = changes;
            due(Math.min(8, made), () -> {
                DandelionBroadcast x = withoutPast(fields(1));
                for (int i = 0; i < made; i++) {
                    x.setShield(0, i + 1 > 9 ? 0 : i + 1);
                }
                int undone = 0;
                while (answer(x::undo) instanceof Integer) {
                    undone++;
                }
                return undone;
            });
        }
        due("1 2 3 4 5 6 7 8 9", () -> {
            // The ninth one before stays.
            DandelionBroadcast x = fields(1);
            for (int shield = 1; shield <= 9; shield++) {
                x.setShield(0, shield);
            }
            String shields = "" + x.shieldOf(0);
            for (int i = 0; i < 8; i++) {
                x.undo();
                shields = x.shieldOf(0) + " " + shields;
            }
            return shields;
        });
    }

    /** All calls that are no changes, and answer. */
    private static DandelionBroadcast afterLooking(DandelionBroadcast x) {
        now(x);
        rejection(x);
        for (int field = 0; field < 3; field++) {
            x.isConnected(field, 3);
            x.wayCost(field, 3);
            x.wayCostByRounds(field, 3);
            x.disjointWays(field, 3);
            x.smallestCut(field, 3);
            x.treeCost(field);
            x.treeCostByGrowing(field);
            x.isInTree(field, 3);
            x.parentIn(3, field);
            x.reachChance(3, field);
            x.isCovered(field);
            x.writeField(field);
            x.fieldByPackets(field);
            x.pathByUse(field);
            x.isBridge(field);
        }
        x.bridgeCount();
        x.bridgeCountByBlocking();
        x.meanEnergy();
        x.lossShare();
        x.lossBits();
        x.isConsistent();
        x.appendInput(';');
        x.saveSnapshot();
        return x;
    }

    /** All calls that can throw, and do. */
    private static DandelionBroadcast afterThrowing(DandelionBroadcast x) {
        for (Call call : WRONG_CALLS) {
            due(true, () -> answer(() -> call.on(x)) instanceof Class);
        }
        answer(x::execute);
        due(STATE, () -> run(x, "field 1;seed 512"));
        due(REJECTED, () -> run(x, "field 1;open 0"));
        due(VALUE, () -> run(x, "field 1;"));
        x.undo();
        return x;
    }

    private static final List<Call> WRONG_CALLS = List.of(
        x -> x.addField(10), x -> x.setShield(9, 1), x -> x.setShield(0, 10), x -> x.addPath(0, 9, 1, 1),
        x -> x.addPath(0, 2, 10, 1), x -> x.addPath(0, 1, 1, 1), x -> x.setGust(9, 1), x -> x.setGust(0, 10),
        x -> x.setBlocked(9, true), x -> x.setBlocked(0, false), x -> x.shieldOf(9), x -> x.firstOf(9),
        x -> x.secondOf(9), x -> x.costOf(9), x -> x.gustOf(9), x -> x.isBlocked(9), x -> x.isConnected(0, 9),
        x -> x.wayCost(0, 9), x -> x.wayCostByRounds(9, 0), x -> x.disjointWays(0, 9), x -> x.disjointWays(0, 0),
        x -> x.smallestCut(9, 0), x -> x.smallestCut(1, 1), x -> x.isBridge(9), x -> x.treeCost(9),
        x -> x.treeCostByGrowing(9), x -> x.isInTree(9, 0), x -> x.isInTree(0, 9), x -> x.parentIn(0, 9),
        x -> x.parentIn(0, 0), x -> x.reachChance(9, 0), x -> x.setSeed(512), x -> x.startBroadcast(9, 1, true),
        x -> x.startBroadcast(0, 7, true), x -> x.startBroadcast(0, 1, true), x -> x.hasPacket(9, 0),
        x -> x.hasPacket(0, 9), x -> x.packetsOf(9), x -> x.isCovered(9), x -> x.useOf(9), x -> x.fieldByPackets(9),
        x -> x.pathByUse(9), x -> x.writeField(9), x -> x.outputAt(99), x -> x.appendInput('\n'));

    /** Nine fields, sixteen paths, and totals that all differ, so that a part that is not brought back shows. */
    private static DandelionBroadcast rich() {
        DandelionBroadcast x = new DandelionBroadcast();
        for (int field = 0; field < 9; field++) {
            x.addField(field % 3);
        }
        for (int field = 1; field < 9; field++) {
            x.addPath(field - 1, field, 3 + field % 3, 9);
        }
        for (int field = 2; field < 9; field++) {
            x.addPath(field, field - 2, 6 + field % 2, 9);
        }
        x.addPath(8, 0, 2, 5);
        x.setBlocked(14, true);
        x.startBroadcast(4, 6, false);
        x.windUntilEnd();
        for (int path = 0; path < 8; path++) {
            x.setGust(path, 6);
        }
        x.startBroadcast(1, 2, true);
        x.windUntilEnd();
        x.startBroadcast(3, 3, true);
        x.windUntilEnd();
        x.startBroadcast(8, 5, true);
        x.wind();
        x.wind();
        return x;
    }

    /** Changes of the last field and the last path, and of the broadcast, of an object that is rich. */
    private static final List<Call> CHANGES_OF_ALL = List.of(x -> x.setShield(8, 7), x -> x.setShield(0, 7),
        x -> x.setGust(15, 1), x -> x.setGust(0, 1), x -> x.setBlocked(15, true), x -> x.setBlocked(14, false),
        x -> x.setSeed(200), DandelionBroadcast::wind, DandelionBroadcast::windUntilEnd, DandelionBroadcast::abort,
        x -> run(x, "finish;send 5 1;shield 8 9;gust 15 0;block 15;wind"));

    private static void goingBack() {
        due("9 16 1 true 2 337 249 15 1283 2 1", () -> totals(rich()));
        for (Call change : CHANGES_OF_ALL) {
            dueLeave("undone", TermBoundaries::rich, TermBoundaries::rich, x -> {
                change.on(x);
                x.undo();
                return "undone";
            }, Checks::now, Checks::rejection, Checks::hidden);
            dueLeave("restored", TermBoundaries::rich, TermBoundaries::rich, x -> {
                x.saveSnapshot();
                change.on(x);
                x.restoreSnapshot();
                return "restored";
            }, Checks::now, Checks::rejection);
        }
        due("8 7 2", () -> {
            // The winds that blew, and the broadcasts that were started, come back, too.
            DandelionBroadcast x = blown(8);
            x.wind();
            x.undo();
            int undone = x.abort();
            x.undo();
            x.undo();
            x.saveSnapshot();
            x.windUntilEnd();
            x.restoreSnapshot();
            int restored = x.abort();
            return undone + " " + restored + " " + x.startBroadcast(0, 1, true);
        });
    }

    private static void undoAndSnapshot() {
        sentence("Undo and the snapshot cover everything but the input, the output, the latest rejection and the latest "
            + "syntax error.");
        for (int number = 0; number < CHANGES; number++) {
            int which = number;
            dueLeave("undone", () -> aheadOf(which), () -> aheadOf(which), x -> {
                change(x, which);
                x.undo();
                return "undone";
            }, Checks::now, Checks::rejection, Checks::hidden, TermBoundaries::sevenOfThePast);
            dueLeave("restored", () -> withoutPast(aheadOf(which)), () -> withoutPast(aheadOf(which)), x -> {
                change(x, which);
                x.restoreSnapshot();
                return "restored";
            }, Checks::now, Checks::rejection, Checks::hidden, Checks::past);
        }
        goingBack();
        due("0s0:##!/2/5/6 1", () -> kept(x -> x.undo()));
        due("0s0:##!/2/5/6 1", () -> kept(x -> x.restoreSnapshot()));
        due("8 8", () -> {
            // The input stays, whether it was typed ahead of the change or after it.
            DandelionBroadcast x = fields(1);
            type(x, "shie");
            x.setSeed(1);
            type(x, "ld 0");
            x.undo();
            int length = x.appendInput(' ') - 1;
            x.appendInput('8');
            x.execute();
            return length + " " + x.shieldOf(0);
        });
    }

    /** With eight changes in the past, a ninth one takes the place of the first for good, so that one is left out. */
    private static String sevenOfThePast(DandelionBroadcast x) {
        StringBuilder text = new StringBuilder();
        for (int i = 0; i < 5; i++) {
            x.undo();
            text.append(totals(x)).append("; ");
        }
        return text.toString();
    }

    /** The output, the length of the input, the latest syntax error and the latest rejection after going back. */
    private static String kept(Call back) {
        DandelionBroadcast x = sending(1, 0, 1, true);
        x.saveSnapshot();
        x.abort();
        x.writeField(0);
        answer(() -> run(x, "seed "));
        answer(x::wind);
        type(x, "w");
        back.on(x);
        return output(x) + "/" + x.appendInput('i') + "/" + x.syntaxErrorOffset() + "/" + x.rejectionReason() + " "
            + x.rejectionDetail();
    }

    private static void exceptions() {
        section("Exceptions");
        sentence("A call that throws an exception changes nothing, except where this is stated; an exception other than "
            + "UnsupportedOperationException does not change the latest rejection.");
        for (Call call : WRONG_CALLS) {
            Object thrown = answer(() -> call.on(busy()));
            if (thrown != REJECTED) {
                dueThrow((Class<?>) thrown, Checks::busy, call);
            }
        }
        for (Call call : List.<Call>of(DandelionBroadcast::source, DandelionBroadcast::windsLeft,
            DandelionBroadcast::energyLeft, DandelionBroadcast::restoreSnapshot, DandelionBroadcast::syntaxErrorOffset,
            x -> x.isCovered(0), x -> x.hasPacket(0, 0))) {
            dueThrow((Class<?>) answer(() -> call.on(fields(2))), () -> fields(2), call);
        }
        due("6 0", () -> {
            DandelionBroadcast x = fields(1);
            answer(x::wind);
            answer(() -> x.addField(10));
            answer(() -> x.shieldOf(1));
            answer(x::source);
            answer(x::meanEnergy);
            answer(() -> run(x, "seed 512"));
            answer(() -> run(x, "s"));
            return x.rejectionReason() + " " + x.rejectionDetail();
        });

        sentence("If several exceptions of a method apply, the one that is listed first is thrown.");
        due(VALUE, () -> full(16).addField(10));
        due(INDEX, () -> fields(1).setShield(1, 10));
        due(INDEX, () -> fields(1).addPath(1, 1, 0, 10));
        due(INDEX, () -> full(16).addPath(9, 0, 1, 1));
        due(VALUE, () -> full(16).addPath(0, 1, 0, 1));
        due(VALUE, () -> full(16).addPath(1, 1, 1, 1));
        due(INDEX, () -> line(2, 0).setGust(1, 10));
        due(INDEX, () -> fields(1).wayCost(0, 1));
        due(INDEX, () -> fields(1).wayCostByRounds(1, 0));
        due(INDEX, () -> fields(1).disjointWays(1, 1));
        due(INDEX, () -> fields(1).smallestCut(1, 1));
        due(INDEX, () -> fields(1).parentIn(1, 1));
        due(INDEX, () -> fields(1).reachChance(0, 1));
        due(INDEX, () -> sending(1, 0, 1, false).startBroadcast(1, 0, false));
        due(VALUE, () -> sending(1, 0, 1, false).startBroadcast(0, 0, false));
        due(INDEX, () -> fields(1).hasPacket(1, 0));
        due(INDEX, () -> fields(1).isCovered(1));
        due(VALUE, () -> {
            DandelionBroadcast x = new DandelionBroadcast();
            type(x, "123456789012345678901234567890123456789012345678901234567890");
            return x.appendInput('\n');
        });
        due(VALUE, () -> run(fields(1), "seed 512;wind;"));
        due(STATE, () -> run(fields(1), "seed 512;wind"));
    }

    private static void furtherRules() {
        section("Further rules");
        sentence("A packet that arrives in a wind can be sent on by its field in the same wind; a rebuilt one cannot.");
        due("8 9", () -> {
            DandelionBroadcast x = sending(9, 0, 1, false);
            return x.wind() + " " + x.coveredCount();
        });
        for (String fates : new String[] {".##", "#.#", "##."}) {
            // Field 1 lacks one packet, and rebuilds it; field 2 gets the two that arrived, and rebuilds it, too.
            due("2 4 2 3", () -> {
                DandelionBroadcast x = line(3, 5);
                x.setGust(1, 0);
                x.setSeed(seedFor(5, fates));
                x.startBroadcast(0, 2, true);
                int arrived = x.wind();
                return x.useOf(1) + " " + arrived + " " + x.rebuiltCount() + " " + x.packetsOf(2);
            });
        }
        due("3 1 1 6", () -> {
            // With three data packets field 2 lacks two, until the rebuilt one is sent in the next wind.
            DandelionBroadcast x = line(3, 5);
            x.setSeed(seedFor(5, "###." + "..#"));
            x.startBroadcast(0, 3, true);
            x.wind();
            int before = x.useOf(1);
            int rebuilt = x.rebuiltCount();
            int held = x.packetsOf(2);
            x.setGust(1, 0);
            x.wind();
            return before + " " + rebuilt + " " + held + " " + x.useOf(1);
        });

        sentence("During a broadcast, fields and paths can be added, shields, gusts and the seed can be set, and paths "
            + "can be blocked and opened; an added field has no packets.");
        due("2 1 0 0 5 1 0 0", () -> {
            DandelionBroadcast x = sending(2, 5, 6, true);
            int field = x.addField(4);
            int path = x.addPath(2, 0, 1, 1);
            int packets = x.packetsOf(2);
            return field + " " + path + " " + packets + " " + x.setShield(1, 5) + " " + x.setGust(0, 3) + " "
                + x.setBlocked(0, true) + " " + x.setBlocked(0, false) + " " + x.setSeed(8);
        });
        due("5", () -> "" + run(sending(2, 5, 6, true), "field 1;path 0-2 1 1;shield 0 1;gust 0 1;block 0"));
        due("true 0", () -> {
            // All fields of the group had everything, but for the one that is added.
            DandelionBroadcast x = sending(2, 0, 1, false);
            x.addField(0);
            x.addPath(1, 2, 1, 9);
            x.setSeed(secondDrawIsNot9());
            x.wind();
            return x.isBroadcasting() + " " + x.packetsOf(2);
        });
        due(0, () -> {
            DandelionBroadcast x = sending(2, 0, 6, true);
            x.wind();
            x.addField(9);
            return x.packetsOf(2);
        });
    }

    private static void reasons() {
        section("The constants");
        sentence("`FIELD_LIMIT = 1`:");
        due(1, () -> DandelionBroadcast.FIELD_LIMIT);
        sentence("Reason: there are 9 fields.", "The detail is 9.");
        dueReject(DandelionBroadcast.FIELD_LIMIT, 9, () -> fields(9), x -> x.addField(0));
        due(8, () -> fields(8).addField(0));

        sentence("`PATH_LIMIT = 2`:");
        due(2, () -> DandelionBroadcast.PATH_LIMIT);
        sentence("Reason: there are 16 paths.", "The detail is the number of open paths.");
        for (int blocked = 0; blocked <= 16; blocked++) {
            int closed = blocked;
            dueReject(DandelionBroadcast.PATH_LIMIT, 16 - closed, () -> fullWithBlocked(closed), x -> x.addPath(8, 7, 1, 1));
        }

        sentence("`SAME_PATH = 3`:");
        due(3, () -> DandelionBroadcast.SAME_PATH);
        sentence("Reason: there is a path between both fields.", "The detail is its id.");
        for (int field = 1; field < 9; field++) {
            int index = field;
            dueReject(DandelionBroadcast.SAME_PATH, index - 1, () -> full(15), x -> x.addPath(0, index, 1, 1));
            dueReject(DandelionBroadcast.SAME_PATH, index - 1, () -> full(8), x -> x.addPath(index, 0, 1, 1));
        }

        sentence("`NO_CHANGE = 4`:");
        due(4, () -> DandelionBroadcast.NO_CHANGE);
        sentence("Reason: the path is blocked, or open, already.", "The detail is the number of blocked paths.");
        for (int blocked = 0; blocked <= 16; blocked++) {
            int closed = blocked;
            for (int path : new int[] {0, 7, 15}) {
                int id = path;
                dueReject(DandelionBroadcast.NO_CHANGE, closed, () -> fullWithBlocked(closed),
                    x -> x.setBlocked(id, id < closed));
            }
        }

        sentence("`BROADCASTING = 5`:");
        due(5, () -> DandelionBroadcast.BROADCASTING);
        sentence("Reason: there is a broadcast that has not ended.", "The detail is the number of winds that blew for it.");
        for (int winds = 0; winds < 30; winds++) {
            int blown = winds;
            dueReject(DandelionBroadcast.BROADCASTING, blown, () -> blown(blown), x -> x.startBroadcast(0, 1, true));
        }
        dueReject(DandelionBroadcast.BROADCASTING, 0, () -> {
            DandelionBroadcast x = blown(4);
            x.abort();
            x.startBroadcast(0, 6, true);
            return x;
        }, x -> x.startBroadcast(0, 1, true));

        sentence("`NO_BROADCAST = 6`:");
        due(6, () -> DandelionBroadcast.NO_BROADCAST);
        sentence("Reason: there is no broadcast that has not ended.",
            "The detail is the number of broadcasts that have been started so far.");
        for (int broadcasts = 0; broadcasts < 4; broadcasts++) {
            int started = broadcasts;
            for (Call call : List.<Call>of(DandelionBroadcast::wind, DandelionBroadcast::windUntilEnd,
                DandelionBroadcast::abort)) {
                dueReject(DandelionBroadcast.NO_BROADCAST, started, () -> started(started), call);
            }
        }
        dueReject(DandelionBroadcast.NO_BROADCAST, 1, () -> {
            // One that is undone has not been started.
            DandelionBroadcast x = started(1);
            x.startBroadcast(0, 1, true);
            x.undo();
            return x;
        }, DandelionBroadcast::wind);

        sentence("`COMMAND_REJECTED = 7`:");
        due(7, () -> DandelionBroadcast.COMMAND_REJECTED);
        sentence("Reason: a command is rejected.", "The detail is the number of the command, from 0.",
            "The reason for which the method of this command rejects it is the cause.");
        StringBuilder seeds = new StringBuilder();
        for (int number = 0; number <= 7; number++) {
            int index = number;
            String text = seeds + "wind";
            seeds.append("seed 1;");
            due("7 " + index + " 6", () -> {
                DandelionBroadcast x = fields(1);
                due(REJECTED, () -> run(x, text));
                return rejection(x);
            });
        }
        due("7 11 6", () -> {
            // Eleven winds blow, and the twelfth one, the last that the input has room for, has no broadcast.
            DandelionBroadcast x = blown(19);
            due(REJECTED, () -> run(x, "wind;wind;wind;wind;wind;wind;wind;wind;wind;wind;wind;wind"));
            return rejection(x);
        });
    }

    private static DandelionBroadcast fullWithBlocked(int closed) {
        DandelionBroadcast x = full(16);
        for (int path = 0; path < closed; path++) {
            x.setBlocked(path, true);
        }
        return x;
    }

    /** As many broadcasts that have ended, some of them by an abort. */
    private static DandelionBroadcast started(int count) {
        DandelionBroadcast x = fields(1);
        for (int i = 0; i < count; i++) {
            x.startBroadcast(0, 1, true);
            answer(i % 2 == 0 ? x::wind : x::abort);
        }
        return x;
    }
}
