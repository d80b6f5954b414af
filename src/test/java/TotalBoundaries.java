/** A check of its own for each sentence of the promises 42 to 54: totals and orders. */
public final class TotalBoundaries extends Checks {
    public static void main(String[] args) {
        sentCount();
        lostCount();
        rebuiltCount();
        energy();
        endedCounts();
        useOf();
        fieldByPackets();
        pathByUse();
        meanEnergy();
        lossShare();
        lossBits();
        isConsistent();
        finishPromises(42, 54);
    }

    /** Two fields, with a path of this cost; of the packets sent in one wind only those with "#" arrive. */
    private static DandelionBroadcast afterWind(int cost, String fates, boolean parity) {
        DandelionBroadcast x = fields(2);
        x.addPath(1, 0, cost, 5);
        x.setSeed(seedFor(5, fates));
        x.startBroadcast(0, parity ? fates.length() - 1 : fates.length(), parity);
        x.wind();
        return x;
    }

    private static DandelionBroadcast failed() {
        DandelionBroadcast x = sending(9, 9, 6, false);
        x.windUntilEnd();
        return x;
    }

    private static DandelionBroadcast forgotten() {
        DandelionBroadcast x = afterWind(3, "#.#", true);
        x.undo();
        return x;
    }

    private static void sentCount() {
        promise(42);
        sentence("Returns the number of packets that have been sent so far.", "Returns the number of packets.");
        due(0, () -> new DandelionBroadcast().sentCount());
        due(0, () -> sending(9, 9, 6, true).sentCount());
        due(0, () -> {
            DandelionBroadcast x = sending(1, 0, 6, true);
            x.wind();
            return x.sentCount();
        });
        due(3, () -> afterWind(9, "...", false).sentCount());
        due(3, () -> afterWind(9, "#.#", true).sentCount());
        due(56, () -> {
            DandelionBroadcast x = sending(9, 0, 6, true);
            x.windsLeft();
            x.energyLeft();
            x.wind();
            return x.sentCount();
        });
        due(6 + 2, () -> {
            // A new broadcast goes on counting, and so does one after an abort.
            DandelionBroadcast x = afterWind(1, "......", false);
            x.abort();
            x.setGust(0, 0);
            x.startBroadcast(1, 2, false);
            x.wind();
            return x.sentCount();
        });
        due(0, () -> forgotten().sentCount());
    }

    private static void lostCount() {
        promise(43);
        sentence("Returns the number of sent packets that were lost so far.", "Returns the number of packets.");
        due(0, () -> new DandelionBroadcast().lostCount());
        due(0, () -> afterWind(1, "###", false).lostCount());
        due(3, () -> afterWind(1, "...", false).lostCount());
        due(1, () -> afterWind(1, "##.", false).lostCount());
        due(1, () -> afterWind(1, "##.", true).lostCount());
        due(failed().sentCount(), () -> failed().lostCount() + arrivals(failed()));
        due(2, () -> {
            DandelionBroadcast x = afterWind(1, "..", false);
            x.abort();
            x.setGust(0, 0);
            x.startBroadcast(1, 2, false);
            x.wind();
            return x.lostCount();
        });
        due(0, () -> forgotten().lostCount());
    }

    /** Without a parity packet each packet that a field other than the source has did arrive. */
    private static int arrivals(DandelionBroadcast x) {
        int sum = 0;
        for (int field = 1; field < x.fieldCount(); field++) {
            sum += x.packetsOf(field);
        }
        return sum;
    }

    private static void rebuiltCount() {
        promise(44);
        sentence("Returns the number of packets that fields have rebuilt so far.", "Returns the number of packets.");
        due(0, () -> new DandelionBroadcast().rebuiltCount());
        due(0, () -> afterWind(1, "###", true).rebuiltCount());
        due(1, () -> afterWind(1, "##.", true).rebuiltCount());
        due(1, () -> afterWind(1, ".##", true).rebuiltCount());
        due(0, () -> afterWind(1, ".#.", true).rebuiltCount());
        due(0, () -> afterWind(1, "##.", false).rebuiltCount());
        for (int count = 2; count <= 9; count++) {
            int fields = count;
            due(fields - 1, () -> {
                // The parity packet is lost on its way to field 1, so all fields but the source rebuild it.
                DandelionBroadcast x = line(fields, 0);
                x.setGust(0, 5);
                // Field 1 gets its packets ahead of all others, so the first two draws are for them.
                x.setSeed(seedFor(5, "#."));
                x.startBroadcast(0, 1, true);
                x.wind();
                return x.rebuiltCount();
            });
        }
        due(2, () -> {
            DandelionBroadcast x = afterWind(1, "##.", true);
            x.setSeed(seedFor(5, ".##"));
            x.startBroadcast(0, 2, true);
            x.wind();
            return x.rebuiltCount();
        });
        due(0, () -> forgotten().rebuiltCount());
    }

    private static void energy() {
        promise(45);
        sentence("Returns the energy that has been used so far.", "Returns the energy.");
        due(0, () -> new DandelionBroadcast().energy());
        due(0, () -> sending(2, 0, 1, false).energy());
        for (int cost = 1; cost <= 9; cost++) {
            int given = cost;
            due(given * 3, () -> afterWind(given, "...", false).energy());
            due(given * 3, () -> afterWind(given, "#.#", true).energy());
        }
        due(7 * 9 * 8, () -> {
            DandelionBroadcast x = fields(9);
            for (int field = 1; field < 9; field++) {
                x.addPath(field, field - 1, 9, 0);
            }
            x.startBroadcast(4, 6, true);
            x.wind();
            return x.energy();
        });
        due(2 * 2 + 2 * 5, () -> {
            // A broadcast on another path adds its own energy.
            DandelionBroadcast x = afterWind(2, "##", false);
            x.setBlocked(0, true);
            x.addField(0);
            x.addPath(0, 2, 5, 0);
            x.startBroadcast(0, 2, false);
            x.wind();
            return x.energy();
        });
        due(0, () -> forgotten().energy());
    }

    private static void endedCounts() {
        promise(46);
        sentence("Returns the number of broadcasts that have succeeded so far.", "Returns the number of broadcasts.");
        due("0 0 1 1 2", () -> ended(DandelionBroadcast::finishedCount));
        due(0, () -> failed().finishedCount());

        promise(47);
        sentence("Returns the number of broadcasts that have failed so far, without aborted ones.",
            "Returns the number of broadcasts.");
        due("0 0 0 0 0", () -> ended(DandelionBroadcast::failedCount));
        due(1, () -> failed().failedCount());
        due(2, () -> {
            DandelionBroadcast x = failed();
            x.startBroadcast(0, 6, true);
            x.wind();
            x.abort();
            x.startBroadcast(8, 6, false);
            x.windUntilEnd();
            return x.failedCount();
        });
        due(0, () -> {
            DandelionBroadcast x = failed();
            x.undo();
            return x.failedCount();
        });
    }

    /** At first, when one is started, when it has succeeded, when one is aborted, and when another one has succeeded. */
    private static String ended(Call count) {
        DandelionBroadcast x = line(2, 0);
        String text = "" + count.on(x);
        x.startBroadcast(0, 1, false);
        text = text + " " + count.on(x);
        x.wind();
        text = text + " " + count.on(x);
        x.startBroadcast(0, 1, false);
        x.abort();
        text = text + " " + count.on(x);
        x.startBroadcast(1, 1, true);
        x.windUntilEnd();
        return text + " " + count.on(x);
    }

    private static void useOf() {
        promise(48);
        sentence("Returns the number of packets that have been sent along a path so far.",
            "Returns the number of packets.");
        due(0, () -> line(2, 0).useOf(0));
        due(3, () -> afterWind(1, "...", false).useOf(0));
        due(3, () -> afterWind(1, "#.#", true).useOf(0));
        due("3 5", () -> {
            // In either direction; and a blocked path keeps its use.
            DandelionBroadcast x = afterWind(1, "###", false);
            int before = x.useOf(0);
            x.setGust(0, 0);
            x.startBroadcast(1, 2, false);
            x.wind();
            x.setBlocked(0, true);
            return before + " " + x.useOf(0);
        });
        due(0, () -> {
            // The path that takes the place of an undone one has not been used.
            DandelionBroadcast x = afterWind(1, "###", false);
            for (int changes = 0; changes < 4; changes++) {
                x.undo();
            }
            x.addPath(0, 1, 2, 2);
            return x.useOf(0);
        });

        sentence("- `path`: the id of a path");
        for (int path = 0; path < 16; path++) {
            int id = path;
            due(id < 8 ? 7 : 0, () -> {
                DandelionBroadcast x = full(16);
                x.startBroadcast(0, 6, true);
                x.wind();
                return x.useOf(id);
            });
        }

        sentence("Throws `IndexOutOfBoundsException` if there is no such path");
        noSuchPath((x, path) -> x.useOf(path));
    }

    private static String fieldsInOrder(DandelionBroadcast x) {
        StringBuilder text = new StringBuilder();
        for (int position = 0; position < x.fieldCount(); position++) {
            text.append(x.fieldByPackets(position));
        }
        return text.toString();
    }

    private static void fieldByPackets() {
        promise(49);
        sentence("Returns a field in the order of the packets that fields have, the most packets first.");
        due("201", () -> {
            // Field 2 has three packets, field 0 gets two of them, and field 1 gets one of these.
            DandelionBroadcast x = fields(3);
            x.addPath(2, 0, 1, 5);
            x.addPath(0, 1, 1, 5);
            x.setSeed(seedFor(5, "#.#.#"));
            x.startBroadcast(2, 3, false);
            x.wind();
            return fieldsInOrder(x);
        });
        due("10", () -> {
            // One packet more is ahead of any shield, and the parity packet counts.
            DandelionBroadcast x = fields(2);
            x.setShield(0, 9);
            x.startBroadcast(1, 1, true);
            return fieldsInOrder(x);
        });

        sentence("Of fields with the same number of packets, the one with the greater shield comes first, then the one "
            + "with the lower index.");
        due("012345678", () -> fieldsInOrder(fields(9)));
        due("012345678", () -> fieldsInOrder(full(16)));
        due("876543210", () -> {
            DandelionBroadcast x = new DandelionBroadcast();
            for (int field = 0; field < 9; field++) {
                x.addField(field);
            }
            return fieldsInOrder(x);
        });
        due("213045", () -> {
            DandelionBroadcast x = new DandelionBroadcast();
            for (int shield : new int[] {1, 8, 9, 8, 1, 0}) {
                x.addField(shield);
            }
            return fieldsInOrder(x);
        });

        sentence("- `position`: the position, from 0", "Returns the index of the field.");
        for (int position = 0; position < 9; position++) {
            int place = position;
            due(place == 0 ? 8 : place - 1, () -> {
                DandelionBroadcast x = fields(9);
                x.startBroadcast(8, 1, false);
                return x.fieldByPackets(place);
            });
        }

        sentence("Throws `NoSuchElementException` if there is no such position");
        dueThrow(NONE, DandelionBroadcast::new, x -> x.fieldByPackets(0));
        dueThrow(NONE, () -> fields(1), x -> x.fieldByPackets(1));
        dueThrow(NONE, () -> full(16), x -> x.fieldByPackets(9));
        for (int position : new int[] {-1, 4, 5, Integer.MIN_VALUE, Integer.MAX_VALUE}) {
            dueThrow(NONE, Checks::busy, x -> x.fieldByPackets(position));
        }
    }

    private static String pathsInOrder(DandelionBroadcast x) {
        StringBuilder text = new StringBuilder();
        for (int position = 0; position < x.pathCount(); position++) {
            text.append(x.pathByUse(position)).append(' ');
        }
        return text.toString();
    }

    private static void pathByUse() {
        promise(50);
        sentence("Returns a path in the order of use, the most packets first.");
        due("2 1 0 ", () -> {
            // Three packets, of which two go on, and then one.
            DandelionBroadcast x = fields(4);
            x.addPath(2, 3, 1, 5);
            x.addPath(1, 2, 5, 5);
            x.addPath(0, 1, 9, 5);
            x.setSeed(seedFor(5, "#.#.#"));
            x.startBroadcast(0, 3, false);
            x.wind();
            return pathsInOrder(x);
        });
        due("1 0 ", () -> {
            // A lost packet is a use, and one use is ahead of any cost; a blocked path keeps its place.
            DandelionBroadcast x = fields(3);
            x.addPath(0, 1, 1, 9);
            x.addPath(0, 2, 9, 9);
            x.setBlocked(0, true);
            x.startBroadcast(0, 1, false);
            x.setSeed(seedFor(9, "."));
            x.wind();
            x.setBlocked(1, true);
            return pathsInOrder(x);
        });

        sentence("Of paths with the same use, the one with the lower cost comes first, then the one with the lower id.");
        due("0 1 2 3 4 5 6 7 8 9 10 11 12 13 14 15 ", () -> pathsInOrder(full(16)));
        due("2 1 0 3 4 ", () -> pathsInOrder(ring()));
        due("7 6 5 4 3 2 1 0 ", () -> {
            DandelionBroadcast x = fields(9);
            for (int field = 1; field < 9; field++) {
                x.addPath(0, field, 10 - field, 0);
            }
            return pathsInOrder(x);
        });
        due("2 1 0 3 4 ", () -> {
            DandelionBroadcast x = ring();
            x.startBroadcast(0, 6, false);
            x.setGust(0, 0);
            x.setGust(1, 0);
            x.wind();
            return pathsInOrder(x);
        });

        sentence("- `position`: the position, from 0", "Returns the id of the path.");
        for (int position = 0; position < 16; position++) {
            int place = position;
            due(place, () -> full(16).pathByUse(place));
        }

        sentence("Throws `NoSuchElementException` if there is no such position");
        dueThrow(NONE, DandelionBroadcast::new, x -> x.pathByUse(0));
        dueThrow(NONE, () -> fields(9), x -> x.pathByUse(0));
        dueThrow(NONE, () -> line(2, 0), x -> x.pathByUse(1));
        dueThrow(NONE, () -> full(16), x -> x.pathByUse(16));
        for (int position : new int[] {-1, 4, 5, Integer.MIN_VALUE, Integer.MAX_VALUE}) {
            dueThrow(NONE, Checks::busy, x -> x.pathByUse(position));
        }
    }

    private static void meanEnergy() {
        promise(51);
        sentence("Returns the mean energy of the packets that have been sent so far: the energy divided by the number "
            + "of packets, both converted to double.", "Returns the mean energy.");
        for (int cost = 1; cost <= 9; cost++) {
            int given = cost;
            due((double) given, () -> afterWind(given, "#", false).meanEnergy());
            due((double) given, () -> afterWind(given, "..", false).meanEnergy());
        }
        due(5.0 / 3.0, () -> {
            // Two packets for 1 each, and one of them sent on for 3.
            DandelionBroadcast x = fields(3);
            x.addPath(0, 1, 1, 5);
            x.addPath(1, 2, 3, 0);
            x.setSeed(seedFor(5, "#."));
            x.startBroadcast(0, 2, false);
            x.wind();
            return x.meanEnergy();
        });

        sentence("Throws `ArithmeticException` if no packet was sent");
        nothingSent(DandelionBroadcast::meanEnergy);
    }

    private static void nothingSent(Call call) {
        dueThrow(DIVISION, DandelionBroadcast::new, call);
        dueThrow(DIVISION, () -> full(16), call);
        dueThrow(DIVISION, () -> sending(2, 0, 6, true), call);
        dueThrow(DIVISION, TotalBoundaries::forgotten, call);
        dueThrow(DIVISION, () -> {
            DandelionBroadcast x = sending(1, 0, 6, true);
            x.wind();
            return x;
        }, call);
    }

    private static void lossShare() {
        promise(52);
        sentence("Returns the share of lost packets among the packets that have been sent so far, both numbers "
            + "converted to float.", "Returns the share.");
        due(0.0f, () -> afterWind(1, "###", false).lossShare());
        due(1.0f, () -> afterWind(1, "...", false).lossShare());
        due(1.0f / 3.0f, () -> afterWind(1, "##.", false).lossShare());
        due(2.0f / 3.0f, () -> afterWind(1, "#..", false).lossShare());
        due(1.0f / 3.0f, () -> afterWind(1, "##.", true).lossShare());
        due((float) failed().lostCount() / (float) failed().sentCount(), () -> failed().lossShare());

        sentence("Throws `ArithmeticException` if no packet was sent");
        nothingSent(DandelionBroadcast::lossShare);
    }

    private static void lossBits() {
        promise(53);
        sentence("Returns the bits of lossShare, as Float.floatToIntBits gives them.", "Returns the bits.");
        due(0, () -> afterWind(1, "###", false).lossBits());
        due(0x3f800000, () -> afterWind(1, "...", false).lossBits());
        due(0x3f000000, () -> afterWind(1, "#.", false).lossBits());
        due(0x3eaaaaab, () -> afterWind(1, "##.", false).lossBits());
        due(0x3f2aaaab, () -> afterWind(1, "#..", false).lossBits());
        due(Float.floatToIntBits(failed().lossShare()), () -> failed().lossBits());
        for (int gust = 0; gust <= 9; gust++) {
            DandelionBroadcast x = line(6, gust);
            for (int round = 0; round < 60; round++) {
                x.startBroadcast(round % 6, round % 6 + 1, round % 2 == 0);
                x.windUntilEnd();
                due(Float.floatToIntBits((float) x.lostCount() / (float) x.sentCount()), x::lossBits);
            }
        }
        due(Float.floatToIntBits(1.0f / (1.0f + 200 * 56)), () -> {
            // One packet lost among very many: the share is far below any other one.
            DandelionBroadcast x = line(9, 0);
            x.setGust(0, 9);
            x.setSeed(seedFor(9, "."));
            x.startBroadcast(0, 1, false);
            x.wind();
            x.abort();
            x.setGust(0, 0);
            for (int round = 0; round < 200; round++) {
                x.startBroadcast(round % 9, 6, true);
                x.wind();
            }
            return x.lossBits();
        });

        sentence("Throws `ArithmeticException` if no packet was sent");
        nothingSent(DandelionBroadcast::lossBits);
    }

    private static void isConsistent() {
        promise(54);
        sentence("Checks the data: for all fields, both ways to find the cost of the spread tree agree; for all pairs "
            + "of different fields, the number of disjoint ways is that of the smallest cut; both ways to count bridges "
            + "agree; the uses of all paths together are the number of sent packets; and the energy is the sum over all "
            + "paths of the cost multiplied by the use.", "Returns whether all this is true.");
        due(true, () -> new DandelionBroadcast().isConsistent());
        due(true, () -> fields(9).isConsistent());
        due(true, () -> full(16).isConsistent());
        due(true, () -> ring().isConsistent());
        due(true, () -> busy().isConsistent());
        due(true, () -> failed().isConsistent());
        due(true, () -> forgotten().isConsistent());
        due(true, () -> {
            // Blocked paths keep their uses and costs.
            DandelionBroadcast x = busy();
            x.windUntilEnd();
            for (int path = 0; path < 3; path++) {
                x.setBlocked(path, true);
            }
            return x.isConsistent();
        });
        due(true, () -> {
            DandelionBroadcast x = busy();
            x.restoreSnapshot();
            return x.isConsistent();
        });
        for (int paths = 0; paths <= 16; paths++) {
            int given = paths;
            due(true, () -> full(given).isConsistent());
        }
        dueLeave(true, Checks::busy, Checks::busy, DandelionBroadcast::isConsistent,
            Checks::now, Checks::rejection, Checks::hidden, Checks::past);
    }
}
