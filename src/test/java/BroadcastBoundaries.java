/** A check of its own for each sentence of the promises 29 to 41: broadcasts. */
public final class BroadcastBoundaries extends Checks {
    public static void main(String[] args) {
        setSeed();
        startBroadcast();
        startBroadcastRefused();
        wind();
        windUntilEnd();
        abort();
        isBroadcasting();
        source();
        hasPacket();
        packetsOf();
        isCovered();
        coveredCount();
        windsLeft();
        energyLeft();
        finishPromises(29, 41);
    }

    /** Nine fields in a line with the greatest danger: after this many winds it is still far from its end. */
    private static DandelionBroadcast failing(int winds) {
        DandelionBroadcast x = sending(9, 9, 6, false);
        for (int i = 0; i < winds; i++) {
            x.wind();
        }
        return x;
    }

    private static DandelionBroadcast failed() {
        DandelionBroadcast x = failing(0);
        x.windUntilEnd();
        return x;
    }

    private static DandelionBroadcast succeeded() {
        DandelionBroadcast x = sending(3, 0, 2, true);
        x.wind();
        return x;
    }

    private static DandelionBroadcast aborted(int winds) {
        DandelionBroadcast x = failing(winds);
        x.abort();
        return x;
    }

    private static DandelionBroadcast notStartedAnyMore() {
        DandelionBroadcast x = sending(2, 0, 1, false);
        x.undo();
        return x;
    }

    private static void setSeed() {
        promise(29);
        sentence("Sets the seed of the draws.");
        for (int seed = 0; seed < 512; seed += 7) {
            int given = seed;
            due(nextSeed(given) % 10 < 5 ? 0 : 1, () -> {
                DandelionBroadcast x = sending(2, 5, 1, false);
                x.setSeed(given);
                return x.wind();
            });
        }

        sentence("- `seed`: the new seed, 0 to 511");
        for (int seed = 0; seed < 512; seed++) {
            int given = seed;
            due(given, () -> {
                DandelionBroadcast x = new DandelionBroadcast();
                x.setSeed(given);
                return x.setSeed(0);
            });
        }

        sentence("Returns the previous seed.");
        due("0 511 511 0 3", () -> {
            DandelionBroadcast x = new DandelionBroadcast();
            return x.setSeed(511) + " " + x.setSeed(511) + " " + x.setSeed(0) + " " + x.setSeed(3) + " " + x.setSeed(1);
        });
        due(nextSeed(511), () -> {
            // The previous seed is the number drawn last, if one was drawn.
            DandelionBroadcast x = sending(2, 0, 1, false);
            x.setSeed(511);
            x.wind();
            return x.setSeed(0);
        });

        sentence("Throws `IllegalArgumentException` if seed is out of range");
        for (int seed : new int[] {-1, 512, 513, 1023, 1024, -512, Integer.MIN_VALUE, Integer.MAX_VALUE}) {
            dueThrow(VALUE, Checks::busy, x -> x.setSeed(seed));
            dueThrow(VALUE, DandelionBroadcast::new, x -> x.setSeed(seed));
        }
    }

    private static void startBroadcast() {
        promise(30);
        sentence("Starts a broadcast.");
        due("true 1 0", () -> {
            // No wind has blown for it yet, not even if the source is alone.
            DandelionBroadcast x = sending(1, 0, 2, false);
            return x.isBroadcasting() + " " + x.windsLeft() + " " + x.finishedCount();
        });
        due(0, () -> sending(3, 5, 2, false).abort());

        sentence("- `source`: the index of its source");
        for (int source = 0; source < 9; source++) {
            int index = source;
            due("1 " + index + " 1", () -> {
                DandelionBroadcast x = fields(9);
                return x.startBroadcast(index, 1, false) + " " + x.source() + " " + x.packetsOf(index);
            });
        }

        sentence("- `packets`: the number of data packets, 1 to 6");
        for (int packets = 1; packets <= 6; packets++) {
            int data = packets;
            due(data, () -> sending(1, 0, data, false).packetsOf(0));
            due(data, () -> sending(2, 0, data, false).wind());
        }

        sentence("- `parity`: whether there is a parity packet, too");
        for (int packets = 1; packets <= 6; packets++) {
            int data = packets;
            due(data + 1, () -> sending(1, 0, data, true).packetsOf(0));
            due(true, () -> sending(1, 0, data, true).hasPacket(0, data));
            due(NONE, () -> sending(1, 0, data, false).hasPacket(0, data));
        }

        sentence("Returns the number of broadcasts that have been started so far, this one included.");
        due("1 2 4", () -> {
            DandelionBroadcast x = fields(1);
            int first = x.startBroadcast(0, 1, false);
            x.abort();
            int second = x.startBroadcast(0, 1, false);
            x.wind();
            run(x, "send 0 1;abort");
            return first + " " + second + " " + x.startBroadcast(0, 6, true);
        });
        due("2 2", () -> {
            DandelionBroadcast x = succeeded();
            int undone = x.startBroadcast(0, 1, false);
            x.undo();
            return undone + " " + x.startBroadcast(0, 1, false);
        });
        due(2, () -> failed().startBroadcast(8, 1, false));
    }

    private static void startBroadcastRefused() {
        promise(30);
        sentence("Throws `IndexOutOfBoundsException` if there is no such field");
        noSuchField((x, field) -> x.startBroadcast(field, 1, false));
        noSuchField((x, field) -> x.startBroadcast(field, 0, true));

        sentence("Throws `IllegalArgumentException` if packets is out of range");
        for (int packets : new int[] {0, 7, -1, 8, Integer.MIN_VALUE, Integer.MAX_VALUE}) {
            dueThrow(VALUE, () -> fields(2), x -> x.startBroadcast(1, packets, false));
            dueThrow(VALUE, () -> fields(2), x -> x.startBroadcast(1, packets, true));
            dueThrow(VALUE, Checks::busy, x -> x.startBroadcast(0, packets, true));
        }

        sentence("Throws `UnsupportedOperationException` if the call is rejected with the reason BROADCASTING");
        dueReject(5, 0, () -> failing(0), x -> x.startBroadcast(0, 1, false));
        dueReject(5, 1, () -> failing(1), x -> x.startBroadcast(8, 6, true));
        dueReject(5, 29, () -> failing(29), x -> x.startBroadcast(0, 6, true));
        due(2, () -> succeeded().startBroadcast(0, 6, true));
        due(2, () -> aborted(3).startBroadcast(0, 6, true));
    }

    private static void wind() {
        promise(31);
        sentence("Lets a wind blow.");
        for (int winds = 0; winds < 29; winds++) {
            int before = winds;
            due(before + 1, () -> {
                DandelionBroadcast x = failing(before);
                x.wind();
                return x.abort();
            });
        }
        due(false, () -> {
            DandelionBroadcast x = failing(29);
            x.wind();
            return x.isBroadcasting();
        });

        sentence("Returns the number of packets that arrive.");
        due(0, () -> sending(1, 0, 6, true).wind());
        due(1, () -> sending(2, 0, 1, false).wind());
        due(56, () -> sending(9, 0, 6, true).wind());
        for (String fates : new String[] {"...", "#..", "#.#", "##.", ".##", "###"}) {
            due(fates.replace(".", "").length(), () -> {
                // The rebuilt packet of a field that lacks one does not arrive.
                DandelionBroadcast x = line(2, 5);
                x.setSeed(seedFor(5, fates));
                x.startBroadcast(0, 2, true);
                return x.wind();
            });
        }
        due("1 2", () -> {
            // What has arrived earlier is not sent again.
            DandelionBroadcast x = line(2, 5);
            x.setSeed(seedFor(5, "#..##"));
            x.startBroadcast(0, 3, false);
            return x.wind() + " " + x.wind();
        });

        sentence("Throws `UnsupportedOperationException` if the call is rejected with the reason NO_BROADCAST");
        noBroadcast(DandelionBroadcast::wind);
    }

    private static void noBroadcast(Call call) {
        dueReject(6, 0, DandelionBroadcast::new, call);
        dueReject(6, 0, () -> full(16), call);
        dueReject(6, 0, BroadcastBoundaries::notStartedAnyMore, call);
        dueReject(6, 1, BroadcastBoundaries::succeeded, call);
        dueReject(6, 1, BroadcastBoundaries::failed, call);
        dueReject(6, 1, () -> aborted(2), call);
        dueReject(6, 2, () -> {
            DandelionBroadcast x = aborted(0);
            x.startBroadcast(3, 1, true);
            x.abort();
            return x;
        }, call);
    }

    private static void windUntilEnd() {
        promise(32);
        sentence("Lets winds blow until the broadcast ends.");
        due(data(windByWind(failing(0))), () -> data(failed()));
        due(data(windByWind(busy())), () -> {
            DandelionBroadcast x = busy();
            x.windUntilEnd();
            return data(x);
        });
        due("false 1 0", () -> {
            DandelionBroadcast x = failed();
            return x.isBroadcasting() + " " + x.failedCount() + " " + x.finishedCount();
        });
        due("false 0 1", () -> {
            DandelionBroadcast x = sending(3, 5, 2, true);
            x.windUntilEnd();
            return x.isBroadcasting() + " " + x.failedCount() + " " + x.finishedCount();
        });

        sentence("Returns the number of winds.");
        due(1, () -> sending(1, 0, 1, false).windUntilEnd());
        due(1, () -> sending(9, 0, 6, true).windUntilEnd());
        for (int winds = 0; winds < 30; winds++) {
            int before = winds;
            due(30 - before, () -> failing(before).windUntilEnd());
        }
        for (int winds = 1; winds < 8; winds++) {
            int needed = winds;
            due(needed, () -> {
                DandelionBroadcast x = line(2, 5);
                x.setSeed(seedFor(5, ".......".substring(0, needed - 1) + "#"));
                x.startBroadcast(0, 1, false);
                return x.windUntilEnd();
            });
        }

        sentence("Throws `UnsupportedOperationException` if the call is rejected with the reason NO_BROADCAST");
        noBroadcast(DandelionBroadcast::windUntilEnd);
    }

    private static DandelionBroadcast windByWind(DandelionBroadcast x) {
        for (int i = 0; i < 30 && x.isBroadcasting(); i++) {
            x.wind();
        }
        return x;
    }

    private static void abort() {
        promise(33);
        sentence("Aborts the broadcast.");
        due("false 0 0", () -> {
            DandelionBroadcast x = aborted(3);
            return x.isBroadcasting() + " " + x.failedCount() + " " + x.finishedCount();
        });
        due("false 0 0 6", () -> {
            // Also if all fields are covered already, an aborted broadcast has not succeeded.
            DandelionBroadcast x = sending(1, 0, 6, false);
            x.abort();
            return x.isBroadcasting() + " " + x.failedCount() + " " + x.finishedCount() + " " + x.packetsOf(0);
        });
        due("false 0 0", () -> {
            DandelionBroadcast x = aborted(29);
            return x.isBroadcasting() + " " + x.failedCount() + " " + x.finishedCount();
        });

        sentence("Returns the number of winds that blew for it.");
        due(0, () -> sending(1, 0, 1, false).abort());
        for (int winds = 0; winds < 30; winds++) {
            int blown = winds;
            due(blown, () -> failing(blown).abort());
        }
        due(1, () -> {
            // The winds of an earlier broadcast do not count.
            DandelionBroadcast x = aborted(5);
            x.startBroadcast(0, 6, false);
            x.wind();
            return x.abort();
        });

        sentence("Throws `UnsupportedOperationException` if the call is rejected with the reason NO_BROADCAST");
        noBroadcast(DandelionBroadcast::abort);
    }

    private static void isBroadcasting() {
        promise(34);
        sentence("Tells whether there is a broadcast that has not ended.", "Returns whether there is one.");
        due(false, () -> new DandelionBroadcast().isBroadcasting());
        due(false, () -> full(16).isBroadcasting());
        due(true, () -> sending(1, 0, 1, false).isBroadcasting());
        due(true, () -> failing(29).isBroadcasting());
        due(false, () -> succeeded().isBroadcasting());
        due(false, () -> failed().isBroadcasting());
        due(false, () -> aborted(0).isBroadcasting());
        due(false, () -> notStartedAnyMore().isBroadcasting());
        due(true, () -> {
            DandelionBroadcast x = aborted(0);
            x.undo();
            return x.isBroadcasting();
        });
        due(true, () -> {
            DandelionBroadcast x = failed();
            x.undo();
            return x.isBroadcasting();
        });
    }

    private static void source() {
        promise(35);
        sentence("Returns the source of the latest broadcast.", "Returns the index of the field.");
        for (int field = 0; field < 9; field++) {
            int index = field;
            due("8 " + index + " " + index, () -> {
                DandelionBroadcast x = fields(9);
                x.startBroadcast(8, 1, false);
                int earlier = x.source();
                x.abort();
                x.startBroadcast(index, 1, false);
                int running = x.source();
                x.wind();
                return earlier + " " + running + " " + x.source();
            });
        }
        due(0, () -> aborted(2).source());
        due(0, () -> failed().source());
        due(0, () -> {
            DandelionBroadcast x = aborted(2);
            x.startBroadcast(4, 1, false);
            x.undo();
            return x.source();
        });

        sentence("Throws `NoSuchElementException` if no broadcast was started");
        dueThrow(NONE, DandelionBroadcast::new, DandelionBroadcast::source);
        dueThrow(NONE, () -> full(16), DandelionBroadcast::source);
        dueThrow(NONE, BroadcastBoundaries::notStartedAnyMore, DandelionBroadcast::source);
    }

    /** Of these packets, the parity packet the last one, only those with "#" arrive at field 1. */
    private static DandelionBroadcast arriving(String fates, boolean parity) {
        DandelionBroadcast x = line(2, 5);
        x.setSeed(seedFor(5, fates));
        x.startBroadcast(0, parity ? fates.length() - 1 : fates.length(), parity);
        x.wind();
        return x;
    }

    private static void hasPacket() {
        promise(36);
        sentence("Tells whether a field has a packet of the latest broadcast.", "Returns whether it has the packet.");
        for (String fates : new String[] {"#.", ".#", "#..", ".#.", "..#", "...#", ".#.#"}) {
            for (int packet = 0; packet < fates.length(); packet++) {
                int number = packet;
                due(fates.charAt(number) == '#', () -> arriving(fates, false).hasPacket(1, number));
                due(true, () -> arriving(fates, false).hasPacket(0, number));
            }
        }
        due(false, () -> {
            // Packets of an earlier broadcast are not meant.
            DandelionBroadcast x = arriving("##", false);
            x.startBroadcast(0, 2, false);
            return x.hasPacket(1, 0);
        });

        sentence("- `field`: the index of a field");
        for (int field = 0; field < 9; field++) {
            int index = field;
            due(index == 4, () -> {
                DandelionBroadcast x = fields(9);
                x.startBroadcast(4, 6, true);
                return x.hasPacket(index, 6);
            });
        }

        sentence("- `packet`: the number of a packet, from 0; the parity packet comes after the data packets");
        for (int packets = 1; packets <= 6; packets++) {
            int data = packets;
            for (int packet = 0; packet <= data; packet++) {
                int number = packet;
                due(true, () -> sending(1, 0, data, true).hasPacket(0, number));
            }
        }
        due("false true", () -> {
            // The parity packet alone arrives.
            DandelionBroadcast x = arriving("...#", true);
            return x.hasPacket(1, 2) + " " + x.hasPacket(1, 3);
        });

        sentence("Throws `IndexOutOfBoundsException` if there is no such field");
        noSuchField((x, field) -> x.hasPacket(field, 0));
        noSuchField((x, field) -> x.hasPacket(field, 9));

        sentence("Throws `NoSuchElementException` if no broadcast was started, or it has no such packet");
        dueThrow(NONE, () -> fields(1), x -> x.hasPacket(0, 0));
        dueThrow(NONE, BroadcastBoundaries::notStartedAnyMore, x -> x.hasPacket(0, 0));
        for (int packets = 1; packets <= 6; packets++) {
            int data = packets;
            dueThrow(NONE, () -> sending(1, 0, data, false), x -> x.hasPacket(0, data));
            dueThrow(NONE, () -> sending(1, 0, data, true), x -> x.hasPacket(0, data + 1));
        }
        for (int packet : new int[] {-1, 5, 7, 31, 32, 33, Integer.MIN_VALUE, Integer.MAX_VALUE}) {
            dueThrow(NONE, Checks::busy, x -> x.hasPacket(3, packet));
        }
    }

    private static void packetsOf() {
        promise(37);
        sentence("Returns how many packets of the latest broadcast a field has, the parity packet included.");
        due(7, () -> sending(1, 0, 6, true).packetsOf(0));
        due(6, () -> sending(1, 0, 6, false).packetsOf(0));
        due(2, () -> sending(1, 0, 1, true).packetsOf(0));
        due(1, () -> arriving("...#", true).packetsOf(1));
        due(1, () -> arriving("..#.", true).packetsOf(1));
        due(0, () -> arriving("....", true).packetsOf(1));
        due(4, () -> arriving("##.#", true).packetsOf(1));
        due(3, () -> arriving("##.#", false).packetsOf(1));

        sentence("- `field`: the index of a field");
        for (int field = 0; field < 9; field++) {
            int index = field;
            due(6, () -> {
                DandelionBroadcast x = line(9, 0);
                x.startBroadcast(8 - index, 5, true);
                x.wind();
                return x.packetsOf(index);
            });
        }

        sentence("Returns the number of packets, 0 if no broadcast was started.");
        due(0, () -> fields(1).packetsOf(0));
        due(0, () -> full(16).packetsOf(8));
        due(0, () -> notStartedAnyMore().packetsOf(0));

        sentence("Throws `IndexOutOfBoundsException` if there is no such field");
        noSuchField((x, field) -> x.packetsOf(field));
    }

    private static void isCovered() {
        promise(38);
        sentence("Tells whether a field is covered: whether it has all data packets of the latest broadcast.",
            "Returns whether it is covered.");
        due(true, () -> arriving("##", false).isCovered(1));
        due(false, () -> arriving("#.", false).isCovered(1));
        due(false, () -> arriving(".#", false).isCovered(1));
        due(true, () -> arriving("##.", true).isCovered(1));
        due(false, () -> arriving("#..", true).isCovered(1));
        due(false, () -> arriving("..#", true).isCovered(1));
        // A single data packet is covered by its parity packet, from which it is rebuilt.
        due(true, () -> arriving(".#", true).isCovered(1));
        due(false, () -> arriving("..", true).isCovered(1));
        due("true false", () -> {
            DandelionBroadcast x = arriving("##", false);
            boolean earlier = x.isCovered(1);
            x.startBroadcast(0, 1, false);
            return earlier + " " + x.isCovered(1);
        });

        sentence("- `field`: the index of a field");
        for (int field = 0; field < 9; field++) {
            int index = field;
            due("true 1", () -> {
                DandelionBroadcast x = fields(9);
                x.startBroadcast(index, 6, true);
                return x.isCovered(index) + " " + x.coveredCount();
            });
        }

        sentence("Throws `IndexOutOfBoundsException` if there is no such field");
        noSuchField((x, field) -> x.isCovered(field));
        due(INDEX, () -> fields(9).isCovered(9));

        sentence("Throws `NoSuchElementException` if no broadcast was started");
        dueThrow(NONE, () -> fields(1), x -> x.isCovered(0));
        dueThrow(NONE, () -> full(16), x -> x.isCovered(8));
        dueThrow(NONE, BroadcastBoundaries::notStartedAnyMore, x -> x.isCovered(0));
    }

    private static void coveredCount() {
        promise(39);
        sentence("Returns the number of covered fields.");
        for (int count = 1; count <= 9; count++) {
            int fields = count;
            due(1, () -> sending(fields, 0, 6, true).coveredCount());
            due(fields, () -> {
                DandelionBroadcast x = sending(fields, 0, 6, true);
                x.wind();
                return x.coveredCount();
            });
        }
        due(1, () -> arriving("#.", false).coveredCount());
        due(2, () -> arriving("##.", true).coveredCount());
        due("2 2", () -> {
            // A field that has left the group of the source stays covered.
            DandelionBroadcast x = arriving("##", false);
            x.setBlocked(0, true);
            return x.coveredCount() + " " + x.groupCount();
        });

        sentence("Returns the number of fields, 0 if no broadcast was started.");
        due(0, () -> new DandelionBroadcast().coveredCount());
        due(0, () -> full(16).coveredCount());
        due(0, () -> notStartedAnyMore().coveredCount());
    }

    private static void windsLeft() {
        promise(40);
        sentence("Returns how many winds the broadcast would still need until it ends if only winds blew.",
            "Returns the number of winds.");
        due(1, () -> sending(1, 0, 1, false).windsLeft());
        due(1, () -> sending(9, 0, 6, true).windsLeft());
        for (int winds = 0; winds < 30; winds++) {
            int before = winds;
            due(30 - before, () -> failing(before).windsLeft());
        }
        due(busy().windUntilEnd(), () -> busy().windsLeft());
        dueLeave(busy().windUntilEnd(), Checks::busy, Checks::busy, DandelionBroadcast::windsLeft,
            Checks::now, Checks::rejection, Checks::hidden, Checks::past);
        due("30 1", () -> {
            // It is the state as it is now that counts.
            DandelionBroadcast x = failing(0);
            int before = x.windsLeft();
            x.setBlocked(0, true);
            return before + " " + x.windsLeft();
        });

        sentence("Throws `NoSuchElementException` if there is no broadcast that has not ended");
        noForecast(DandelionBroadcast::windsLeft);
    }

    private static void noForecast(Call call) {
        dueThrow(NONE, DandelionBroadcast::new, call);
        dueThrow(NONE, () -> full(16), call);
        dueThrow(NONE, BroadcastBoundaries::notStartedAnyMore, call);
        dueThrow(NONE, BroadcastBoundaries::succeeded, call);
        dueThrow(NONE, BroadcastBoundaries::failed, call);
        dueThrow(NONE, () -> aborted(2), call);
    }

    private static void energyLeft() {
        promise(41);
        sentence("Returns how much energy these winds would need.", "Returns the energy.");
        due(0, () -> sending(1, 0, 6, true).energyLeft());
        due(56, () -> sending(9, 0, 6, true).energyLeft());
        for (int winds = 0; winds < 30; winds++) {
            int before = winds;
            due(failed().energy(), () -> {
                DandelionBroadcast x = failing(before);
                return x.energy() + x.energyLeft();
            });
        }
        due(energyNeeded(busy()), () -> busy().energyLeft());
        dueLeave(energyNeeded(busy()), Checks::busy, Checks::busy, DandelionBroadcast::energyLeft,
            Checks::now, Checks::rejection, Checks::hidden, Checks::past);
        due(9 * 3, () -> {
            // Two lost packets and an arriving one need the cost of the path each.
            DandelionBroadcast x = fields(2);
            x.addPath(0, 1, 9, 5);
            x.setSeed(seedFor(5, "..#"));
            x.startBroadcast(0, 1, false);
            return x.energyLeft();
        });

        sentence("Throws `NoSuchElementException` if there is no broadcast that has not ended");
        noForecast(DandelionBroadcast::energyLeft);
    }

    private static int energyNeeded(DandelionBroadcast x) {
        int before = x.energy();
        x.windUntilEnd();
        return x.energy() - before;
    }
}
