/** A check of its own for each sentence of the promises 55 to 65: output, commands, rejections and history. */
public final class CommandBoundaries extends Checks {
    public static void main(String[] args) {
        writeField();
        outputAt();
        appendInput();
        executeAll();
        executeEmpties();
        executeSyntax();
        executeFailing();
        executeRejected();
        syntaxErrorOffset();
        rejectionReason();
        rejectionDetail();
        causeReason();
        undo();
        saveSnapshot();
        restoreSnapshot();
        finishPromises(55, 65);
    }

    private static DandelionBroadcast typed(DandelionBroadcast x, String text) {
        type(x, text);
        return x;
    }

    /** Busy, but for its input. */
    private static DandelionBroadcast listening() {
        DandelionBroadcast x = busy();
        x.execute();
        x.undo();
        return x;
    }

    /** Of these data packets only those with "#" arrive at field 3, which has the shield 4. */
    private static DandelionBroadcast arriving(String fates) {
        DandelionBroadcast x = new DandelionBroadcast();
        for (int field = 0; field < 4; field++) {
            x.addField(field + 1);
        }
        x.addPath(3, 0, 1, 9);
        x.setSeed(seedFor(5, fates));
        x.startBroadcast(0, fates.length(), false);
        x.wind();
        return x;
    }

    private static void writeField() {
        promise(55);
        sentence("Writes a field to the output, in place of the earlier output: its index, \"s\" and its shield, \":\" "
            + "and, for each packet of the latest broadcast in ascending order, \"#\" if the field has it, or \".\" "
            + "otherwise; then \"!\" if it is covered.");
        due("0s1:##!", () -> written(arriving("#."), 0));
        due("1s2:..", () -> written(arriving("#."), 1));
        due("3s4:#.", () -> written(arriving("#."), 3));
        due("3s4:.#", () -> written(arriving(".#"), 3));
        due("3s4:##!", () -> written(arriving("##"), 3));
        due("3s4:...", () -> written(arriving("..."), 3));
        due("0s0:##!", () -> written(sending(2, 0, 1, true), 0));
        due("1s0:..", () -> written(sending(2, 0, 1, true), 1));
        due("0s0:#!", () -> written(sending(1, 0, 1, false), 0));
        due("0s0:#######!", () -> written(sending(1, 0, 6, true), 0));
        due("1s0:##!", () -> {
            // The parity packet comes last: it is lost here, and rebuilt.
            DandelionBroadcast x = line(2, 5);
            x.setSeed(seedFor(5, "#."));
            x.startBroadcast(0, 1, true);
            x.wind();
            return written(x, 1);
        });
        due("1s0:..#", () -> {
            DandelionBroadcast x = line(2, 5);
            x.setSeed(seedFor(5, "..#"));
            x.startBroadcast(0, 2, true);
            x.wind();
            return written(x, 1);
        });
        due("1s2:..", () -> {
            // A shorter text leaves nothing of the longer one.
            DandelionBroadcast x = arriving("##");
            x.writeField(0);
            x.writeField(1);
            return output(x);
        });
        due("0s7:#!", () -> {
            DandelionBroadcast x = sending(1, 0, 6, true);
            x.setShield(0, 7);
            x.writeField(0);
            x.abort();
            x.startBroadcast(0, 1, false);
            x.writeField(0);
            return output(x);
        });

        sentence("Without a broadcast so far, nothing follows the \":\".");
        due("0s0:", () -> written(fields(1), 0));
        due("8s0:", () -> written(full(16), 8));
        due("0s0:", () -> {
            DandelionBroadcast x = sending(1, 0, 6, true);
            x.undo();
            return written(x, 0);
        });

        sentence("An example is \"3s4:##.#\".");
        due("3s4:##.#", () -> written(arriving("##.#"), 3));

        sentence("- `field`: the index of a field");
        for (int field = 0; field < 9; field++) {
            int index = field;
            due(index + "s0:", () -> written(fields(9), index));
        }

        sentence("Returns the length of the output.");
        due(4, () -> fields(1).writeField(0));
        due(5, () -> sending(2, 0, 1, false).writeField(1));
        due(6, () -> sending(2, 0, 1, false).writeField(0));
        due(11, () -> sending(2, 0, 6, true).writeField(1));
        due(12, () -> sending(2, 0, 6, true).writeField(0));

        sentence("Throws `IndexOutOfBoundsException` if there is no such field");
        noSuchField((x, field) -> x.writeField(field));
    }

    private static void outputAt() {
        promise(56);
        sentence("Returns a character of the output.", "Returns the character.");
        due("3s4:##.#", () -> {
            DandelionBroadcast x = arriving("##.#");
            x.writeField(3);
            return output(x);
        });
        due('#', () -> {
            // The output is not written anew when the field changes.
            DandelionBroadcast x = sending(1, 0, 1, false);
            x.writeField(0);
            x.undo();
            return x.outputAt(4);
        });

        sentence("The output is empty at first.");
        due(INDEX, () -> new DandelionBroadcast().outputAt(0));
        due(INDEX, () -> full(16).outputAt(0));

        sentence("- `index`: the index, from 0");
        for (int index = 0; index < 12; index++) {
            int place = index;
            due("0s0:#######!".charAt(place), () -> {
                DandelionBroadcast x = sending(1, 0, 6, true);
                x.writeField(0);
                return x.outputAt(place);
            });
        }

        sentence("Throws `IndexOutOfBoundsException` if there is no character at this index");
        dueThrow(INDEX, DandelionBroadcast::new, x -> x.outputAt(0));
        dueThrow(INDEX, DandelionBroadcast::new, x -> x.outputAt(-1));
        for (int index : new int[] {-1, 12, 13, Integer.MIN_VALUE, Integer.MAX_VALUE}) {
            dueThrow(INDEX, CommandBoundaries::longestOutput, x -> x.outputAt(index));
        }
        dueThrow(INDEX, () -> {
            DandelionBroadcast x = longestOutput();
            x.writeField(1);
            return x;
        }, x -> x.outputAt(11));
        dueThrow(INDEX, () -> {
            DandelionBroadcast x = fields(1);
            x.writeField(0);
            return x;
        }, x -> x.outputAt(4));
    }

    private static DandelionBroadcast longestOutput() {
        DandelionBroadcast x = sending(2, 0, 6, true);
        x.writeField(0);
        return x;
    }

    private static DandelionBroadcast filled(int length) {
        return typed(new DandelionBroadcast(), "field 1;".repeat(8).substring(0, length));
    }

    private static void appendInput() {
        promise(57);
        sentence("Appends a character to the input.");
        due(2, () -> {
            DandelionBroadcast x = new DandelionBroadcast();
            run(x, "field 3;field 4");
            return x.fieldCount();
        });
        due("8/7", () -> {
            // The characters stay in their order, and an undo takes none of them back.
            DandelionBroadcast x = fields(1);
            type(x, "shield 0");
            x.undo();
            type(x, " 7");
            x.addField(8);
            int before = x.shieldOf(0);
            x.execute();
            return before + "/" + x.shieldOf(0);
        });

        sentence("- `character`: the character, with a code from 32 to 126");
        for (int code = 32; code <= 126; code++) {
            char character = (char) code;
            due(1, () -> new DandelionBroadcast().appendInput(character));
            due(60, () -> filled(59).appendInput(character));
        }

        sentence("Returns the length of the input after the call.");
        DandelionBroadcast growing = new DandelionBroadcast();
        for (int length = 1; length <= 60; length++) {
            due(length, () -> growing.appendInput('w'));
        }
        due(1, () -> {
            answer(growing::execute);
            return growing.appendInput('w');
        });

        sentence("Throws `IllegalArgumentException` if the code is out of range");
        for (int code : new int[] {0, 9, 10, 13, 31, 127, 128, 160, 255, 256 + 'w', 32767, 32768, 65535}) {
            char character = (char) code;
            dueThrow(VALUE, DandelionBroadcast::new, x -> x.appendInput(character));
            dueThrow(VALUE, Checks::busy, x -> x.appendInput(character));
            dueThrow(VALUE, () -> filled(60), x -> x.appendInput(character));
        }

        sentence("Throws `IllegalStateException` if the input has 60 characters");
        for (int code = 32; code <= 126; code++) {
            char character = (char) code;
            due(STATE, () -> filled(60).appendInput(character));
        }
        dueThrow(STATE, () -> filled(60), x -> x.appendInput(';'));
        dueThrow(STATE, CommandBoundaries::fullToTheLast, x -> x.appendInput('1'));
        due(7, () -> {
            // The character that was refused is not in the input.
            DandelionBroadcast x = fullToTheLast();
            answer(() -> x.appendInput('1'));
            return x.execute();
        });
    }

    /** Sixty characters that are commands. */
    private static DandelionBroadcast fullToTheLast() {
        return typed(new DandelionBroadcast(), "field 1;field 1;field 1;field 1;field 1;field 1;path 0-1 1 1");
    }

    private static void executeAll() {
        promise(58);
        sentence("Executes the commands of the input, all of them or none.");
        due("3 5 1 2-0 4 9", () -> {
            // Each command finds what the earlier ones have left.
            DandelionBroadcast x = new DandelionBroadcast();
            run(x, "field 3;field 1;field 1;shield 1 5;path 2-0 4 9");
            return x.shieldOf(0) + " " + x.shieldOf(1) + " " + x.shieldOf(2) + " " + x.firstOf(0) + "-" + x.secondOf(0)
                + " " + x.costOf(0) + " " + x.gustOf(0);
        });
        due("0 0 false 1", () -> {
            // None: neither what stands ahead of the failing command, nor what stands behind it.
            DandelionBroadcast x = fields(1);
            answer(() -> run(x, "shield 0 4;seed 9;send 0 1;block 0;field 1"));
            return x.shieldOf(0) + " " + x.setSeed(1) + " " + x.isBroadcasting() + " " + x.fieldCount();
        });
        due("0 1", () -> {
            DandelionBroadcast x = fields(1);
            answer(() -> run(x, "send 0 1;finish;wind"));
            return x.finishedCount() + " " + x.startBroadcast(0, 1, false);
        });

        sentence("Returns the number of commands.");
        StringBuilder text = new StringBuilder();
        for (int commands = 1; commands <= 12; commands++) {
            text.append(commands == 1 ? "wind" : ";wind");
            String input = text.toString();
            int want = commands;
            due(want, () -> run(sending(9, 9, 6, false), input));
        }
        due(1, () -> run(new DandelionBroadcast(), "field 9"));
        due(7, () -> fullToTheLast().execute());
    }

    /** The texts of the commands that are rejected by an object that is listening, with the reasons. */
    private static final String[] REJECTED_COMMANDS = {"path 0-1 1 1 3", "path 1-0 9 9 3", "open 0 4", "block 003 4",
        "send 0 1 5", "send 3 6+ 5"};
    /** The texts of the commands for which their methods throw another exception in an object that is listening. */
    private static final String[] FAILING_COMMANDS = {"shield 4 1", "shield 9 0", "path 4-0 1 1", "path 0-4 1 1",
        "path 2-2 1 1", "path 0-2 0 1", "gust 4 1", "gust 004 1", "gust 999 1", "block 4", "block 16", "block 999",
        "open 4", "open 999", "seed 512", "seed 999", "send 4 1", "send 9 1+", "send 0 0", "send 0 7", "send 0 9+"};

    private static void executeEmpties() {
        promise(58);
        sentence("The input is empty after the call, also if an exception is thrown.");
        for (String text : new String[] {"seed 1", "wind;wind", "seed 512", "block 4", "open 0", "send 0 1", "x", "seed ",
            "seed 1;", ";"}) {
            due(1, () -> {
                DandelionBroadcast x = typed(listening(), text);
                answer(x::execute);
                return x.appendInput('w');
            });
            due(1, () -> {
                DandelionBroadcast x = typed(listening(), text);
                answer(x::execute);
                return run(x, "seed 3");
            });
        }
        due(VALUE, () -> {
            DandelionBroadcast x = typed(listening(), "seed 1");
            x.execute();
            return x.execute();
        });
    }

    private static void executeSyntax() {
        promise(58);
        sentence("Throws `IllegalArgumentException` if the input has a syntax error; syntaxErrorOffset returns its offset");
        for (String text : new String[] {"", ";", "x", "seed 1;", "seed 1;seed", "seed 512;x", "open 0;x", "field 12"}) {
            dueLeave(VALUE, () -> typed(listening(), text), CommandBoundaries::listening, x -> x.execute(),
                Checks::data, Checks::output, Checks::rejection, Checks::hidden, Checks::past);
        }
        String[] texts = {"", "s", "open 0x", "seed 512;open", "open 0;seed 512;;"};
        int[] offsets = {0, 1, 6, 13, 16};
        for (int i = 0; i < texts.length; i++) {
            // A syntax error counts more than a command ahead of it that would fail.
            String text = texts[i];
            due(VALUE + " " + offsets[i], () -> {
                DandelionBroadcast x = listening();
                return answer(() -> run(x, text)) + " " + x.syntaxErrorOffset();
            });
        }
    }

    private static void executeFailing() {
        promise(58);
        sentence("Throws `IllegalStateException` if the first command that fails does so for another reason than a "
            + "rejection: its method throws another exception than UnsupportedOperationException");
        for (String command : FAILING_COMMANDS) {
            for (String text : new String[] {command, "seed 1;wind;" + command, command + ";open 0",
                "shield 0 9;" + command + ";seed 512"}) {
                dueLeave(STATE, () -> typed(listening(), text), CommandBoundaries::listening, x -> x.execute(),
                    Checks::now, Checks::rejection, Checks::hidden, Checks::past);
            }
        }
        due(STATE, () -> run(new DandelionBroadcast(), "shield 0 0"));
        due(STATE, () -> run(new DandelionBroadcast(), "send 0 1"));
        due(STATE, () -> run(new DandelionBroadcast(), "block 0"));
        due(STATE, () -> run(full(16), "gust 16 1"));
        due(1, () -> run(full(16), "gust 15 1"));
        due(1, () -> run(full(16), "block 015"));
        due(1, () -> run(fields(9), "shield 8 9"));
        due(1, () -> run(fields(9), "seed 511"));
        due(1, () -> run(fields(9), "send 8 6"));
        // No path can be added, but a field that is not there counts more.
        due(STATE, () -> run(full(16), "path 2-2 1 1"));
        due(STATE, () -> run(fields(8), "path 8-0 1 1"));
    }

    private static void executeRejected() {
        promise(58);
        sentence("Throws `UnsupportedOperationException` if the call is rejected with the reason COMMAND_REJECTED");
        for (String rejected : REJECTED_COMMANDS) {
            String command = rejected.substring(0, rejected.length() - 2);
            int cause = rejected.charAt(rejected.length() - 1) - '0';
            commandRejected(0, cause, CommandBoundaries::listening, command);
            commandRejected(0, cause, CommandBoundaries::listening, command + ";seed 512;open 0");
            commandRejected(2, cause, CommandBoundaries::listening, "seed 1;wind;" + command);
        }
        commandRejected(0, 1, () -> fields(9), "field 0");
        commandRejected(1, 1, () -> fields(8), "field 0;field 0");
        commandRejected(0, 2, () -> full(16), "path 0-1 1 1");
        commandRejected(1, 2, () -> full(15), "path 7-8 1 1;path 7-6 1 1");
        commandRejected(0, 6, DandelionBroadcast::new, "wind");
        commandRejected(0, 6, DandelionBroadcast::new, "finish");
        commandRejected(0, 6, DandelionBroadcast::new, "abort");
        commandRejected(1, 6, CommandBoundaries::listening, "finish;wind");
        commandRejected(1, 6, CommandBoundaries::listening, "abort;abort");
        commandRejected(5, 6, () -> sending(1, 0, 1, false), "wind;send 0 1;wind;send 0 1;wind;wind");
        commandRejected(3, 4, () -> line(2, 0), "block 0;open 0;block 0;block 0");
        // The first command that fails is the one that counts.
        commandRejected(1, 5, () -> fields(1), "send 0 1;send 0 1;seed 999");
        due(STATE, () -> run(fields(1), "send 0 1;seed 999;send 0 1"));
    }

    private static void commandRejected(int number, int cause, Maker given, String text) {
        dueLeave(REJECTED, () -> typed(given.make(), text), given, x -> x.execute(),
            Checks::now, Checks::hidden, Checks::past);
        due("7 " + number + " " + cause, () -> {
            DandelionBroadcast x = typed(given.make(), text);
            answer(x::execute);
            return rejection(x);
        });
    }

    private static void syntaxErrorOffset() {
        promise(59);
        sentence("Returns the offset of the latest syntax error.", "Returns the offset.");
        due("3 0 6", () -> {
            DandelionBroadcast x = new DandelionBroadcast();
            answer(() -> run(x, "see"));
            int first = x.syntaxErrorOffset();
            answer(x::execute);
            int second = x.syntaxErrorOffset();
            answer(() -> run(x, "seed 7;"));
            answer(() -> run(x, "seed 1x"));
            return first + " " + second + " " + x.syntaxErrorOffset();
        });
        due("5 5 5 5 5 5", () -> {
            // Nothing but another syntax error changes it.
            DandelionBroadcast x = fields(1);
            answer(() -> run(x, "seed "));
            String offsets = "" + x.syntaxErrorOffset();
            x.saveSnapshot();
            run(x, "seed 3");
            offsets = offsets + " " + x.syntaxErrorOffset();
            x.undo();
            offsets = offsets + " " + x.syntaxErrorOffset();
            answer(() -> run(x, "seed 999"));
            offsets = offsets + " " + x.syntaxErrorOffset();
            answer(() -> run(x, "wind"));
            offsets = offsets + " " + x.syntaxErrorOffset();
            x.restoreSnapshot();
            return offsets + " " + x.syntaxErrorOffset();
        });
        due(60, () -> {
            // The longest input ends too early by its last sign.
            DandelionBroadcast x = sending(9, 9, 6, false);
            answer(() -> run(x, "wind;wind;wind;wind;wind;wind;wind;wind;wind;wind;wind;wind;"));
            return x.syntaxErrorOffset();
        });
        due(59, () -> {
            DandelionBroadcast x = filled(59);
            x.appendInput('x');
            answer(x::execute);
            return x.syntaxErrorOffset();
        });

        sentence("Throws `NoSuchElementException` if there was no syntax error");
        dueThrow(NONE, DandelionBroadcast::new, DandelionBroadcast::syntaxErrorOffset);
        dueThrow(NONE, () -> filled(60), DandelionBroadcast::syntaxErrorOffset);
        dueThrow(NONE, () -> {
            DandelionBroadcast x = fields(1);
            run(x, "seed 3");
            answer(() -> run(x, "seed 999"));
            answer(() -> run(x, "wind"));
            return x;
        }, DandelionBroadcast::syntaxErrorOffset);
    }

    private static void rejectionReason() {
        promise(60);
        sentence("Returns the reason of the latest rejection.", "Returns the reason, one of the constants.");
        due(1, () -> afterRejection(fields(9), x -> x.addField(0)).rejectionReason());
        due(2, () -> afterRejection(full(16), x -> x.addPath(8, 7, 1, 1)).rejectionReason());
        due(3, () -> afterRejection(full(15), x -> x.addPath(1, 0, 1, 1)).rejectionReason());
        due(4, () -> afterRejection(full(16), x -> x.setBlocked(15, false)).rejectionReason());
        due(5, () -> afterRejection(sending(1, 0, 1, true), x -> x.startBroadcast(0, 1, true)).rejectionReason());
        due(6, () -> afterRejection(fields(9), DandelionBroadcast::wind).rejectionReason());
        due(6, () -> afterRejection(fields(9), DandelionBroadcast::windUntilEnd).rejectionReason());
        due(6, () -> afterRejection(fields(9), DandelionBroadcast::abort).rejectionReason());
        due(7, () -> afterRejection(fields(9), x -> run(x, "field 1")).rejectionReason());
        due("6 4", () -> {
            DandelionBroadcast x = afterRejection(line(2, 0), DandelionBroadcast::wind);
            int before = x.rejectionReason();
            afterRejection(x, y -> y.setBlocked(0, false));
            return before + " " + x.rejectionReason();
        });

        sentence("Throws `NoSuchElementException` if no call was rejected");
        notRejected(DandelionBroadcast::rejectionReason);
    }

    private static DandelionBroadcast afterRejection(DandelionBroadcast x, Call call) {
        due(REJECTED, () -> call.on(x));
        return x;
    }

    private static void notRejected(Call call) {
        dueThrow(NONE, DandelionBroadcast::new, call);
        dueThrow(NONE, () -> full(16), call);
        dueThrow(NONE, () -> {
            // Other exceptions are no rejections.
            DandelionBroadcast x = fields(2);
            answer(() -> x.addField(10));
            answer(() -> x.setShield(2, 1));
            answer(() -> run(x, "x"));
            answer(() -> run(x, "seed 999"));
            answer(x::restoreSnapshot);
            answer(x::meanEnergy);
            answer(x::windsLeft);
            return x;
        }, call);
    }

    private static void rejectionDetail() {
        promise(61);
        sentence("Returns the detail of the latest rejection.", "Returns the detail.");
        due("0 0", () -> {
            // It is the detail at the time of the call, not of now.
            DandelionBroadcast x = afterRejection(line(3, 0), y -> y.setBlocked(0, false));
            int before = x.rejectionDetail();
            x.setBlocked(0, true);
            return before + " " + x.rejectionDetail();
        });
        due("16 15", () -> {
            DandelionBroadcast x = afterRejection(full(16), y -> y.addPath(8, 7, 1, 1));
            int before = x.rejectionDetail();
            x.setBlocked(0, true);
            afterRejection(x, y -> y.addPath(8, 7, 1, 1));
            return before + " " + x.rejectionDetail();
        });
        due(1, () -> {
            DandelionBroadcast x = afterRejection(sending(2, 9, 1, false), y -> run(y, "seed 1;send 0 1"));
            x.undo();
            return x.rejectionDetail();
        });

        sentence("Throws `NoSuchElementException` if no call was rejected");
        notRejected(DandelionBroadcast::rejectionDetail);
    }

    private static void causeReason() {
        promise(62);
        sentence("Returns the reason of the command that caused the latest rejection.",
            "Returns the reason, one of the constants.");
        due(1, () -> afterRejection(fields(9), x -> run(x, "field 1")).causeReason());
        due(2, () -> afterRejection(full(16), x -> run(x, "path 0-1 1 1")).causeReason());
        due(3, () -> afterRejection(full(15), x -> run(x, "path 0-1 1 1")).causeReason());
        due(4, () -> afterRejection(full(15), x -> run(x, "open 0")).causeReason());
        due(5, () -> afterRejection(fields(1), x -> run(x, "send 0 1;send 0 1")).causeReason());
        due(6, () -> afterRejection(fields(1), x -> run(x, "send 0 1;abort;wind")).causeReason());
        due("6 4", () -> {
            DandelionBroadcast x = afterRejection(line(2, 0), y -> run(y, "wind"));
            int before = x.causeReason();
            afterRejection(x, y -> run(y, "seed 1;open 0"));
            return before + " " + x.causeReason();
        });

        sentence("Throws `NoSuchElementException` if no call was rejected, or the latest rejection has another reason "
            + "than COMMAND_REJECTED");
        notRejected(DandelionBroadcast::causeReason);
        dueThrow(NONE, () -> afterRejection(fields(9), x -> x.addField(1)), DandelionBroadcast::causeReason);
        dueThrow(NONE, () -> {
            DandelionBroadcast x = afterRejection(fields(9), y -> run(y, "field 1"));
            return afterRejection(x, y -> y.addField(1));
        }, DandelionBroadcast::causeReason);
        due(NONE, () -> afterRejection(full(16), x -> x.addPath(0, 1, 1, 1)).causeReason());
        due(NONE, () -> afterRejection(full(15), x -> x.addPath(0, 1, 1, 1)).causeReason());
        due(NONE, () -> afterRejection(full(15), x -> x.setBlocked(0, false)).causeReason());
        due(NONE, () -> afterRejection(sending(1, 0, 1, false), x -> x.startBroadcast(0, 1, true)).causeReason());
        due(NONE, () -> afterRejection(fields(1), DandelionBroadcast::abort).causeReason());
    }

    private static void undo() {
        promise(63);
        sentence("Undoes the latest change that has not been undone.");
        due("2 1 0", () -> {
            DandelionBroadcast x = fields(1);
            x.setShield(0, 1);
            x.setShield(0, 2);
            x.setShield(0, 3);
            x.undo();
            int first = x.shieldOf(0);
            x.undo();
            int second = x.shieldOf(0);
            x.undo();
            return first + " " + second + " " + x.shieldOf(0);
        });
        due("1 0", () -> {
            // A change after an undo is the latest one then; what was undone does not come back.
            DandelionBroadcast x = fields(1);
            x.setShield(0, 1);
            x.setShield(0, 2);
            x.undo();
            x.setShield(0, 3);
            x.undo();
            int first = x.shieldOf(0);
            x.undo();
            return first + " " + x.shieldOf(0);
        });
        due("2 6 0", () -> {
            // All commands of an execute are one change.
            DandelionBroadcast x = fields(2);
            run(x, "field 1;shield 0 6;seed 5;field 2");
            x.setShield(0, 6);
            x.undo();
            int shield = x.shieldOf(0);
            x.undo();
            return x.fieldCount() + " " + shield + " " + x.setSeed(1);
        });

        sentence("Returns the number of changes that can still be undone.");
        for (int changes = 1; changes <= 12; changes++) {
            int made = changes;
            due(Math.min(made, 8) - 1, () -> seeds(made).undo());
        }
        due("7 6 5 4 3 2 1 0 " + STATE, () -> undone(seeds(9)));
        due("7 6 5 4 3 2 1 0 " + STATE, () -> undone(seeds(20)));
        due("2 1 0 " + STATE, () -> undone(seeds(3)));
        due("7 7 6 7", () -> {
            DandelionBroadcast x = seeds(8);
            int first = x.undo();
            x.setSeed(1);
            int second = x.undo();
            int third = x.undo();
            x.setSeed(1);
            x.setSeed(2);
            x.setSeed(3);
            return first + " " + second + " " + third + " " + x.undo();
        });

        sentence("Throws `IllegalStateException` if there is none");
        dueThrow(STATE, DandelionBroadcast::new, DandelionBroadcast::undo);
        for (int changes : new int[] {1, 7, 8, 9, 17}) {
            int made = changes;
            dueThrow(STATE, () -> spent(seeds(made)), DandelionBroadcast::undo);
        }
        dueThrow(STATE, () -> {
            DandelionBroadcast x = busy();
            x.restoreSnapshot();
            return x;
        }, DandelionBroadcast::undo);
        dueThrow(STATE, () -> {
            DandelionBroadcast x = new DandelionBroadcast();
            answer(() -> x.addField(10));
            answer(x::wind);
            answer(() -> run(x, "field 1;"));
            x.saveSnapshot();
            return x;
        }, DandelionBroadcast::undo);
    }

    /** As many changes, of which each one sets another seed. */
    private static DandelionBroadcast seeds(int changes) {
        DandelionBroadcast x = new DandelionBroadcast();
        for (int seed = 1; seed <= changes; seed++) {
            x.setSeed(seed);
        }
        return x;
    }

    private static DandelionBroadcast spent(DandelionBroadcast x) {
        undone(x);
        return x;
    }

    private static String undone(DandelionBroadcast x) {
        StringBuilder text = new StringBuilder();
        Object left = answer(x::undo);
        while (left instanceof Integer) {
            text.append(left).append(' ');
            left = answer(x::undo);
        }
        return text.append(left).toString();
    }

    private static void saveSnapshot() {
        promise(64);
        sentence("Saves a snapshot of the data, in place of an earlier snapshot.");
        due("2 2 5", () -> {
            DandelionBroadcast x = fields(1);
            x.saveSnapshot();
            x.addField(5);
            x.saveSnapshot();
            x.addField(6);
            return x.restoreSnapshot() + " " + x.fieldCount() + " " + x.shieldOf(1);
        });
        dueLeave(4, CommandBoundaries::savedAlready, CommandBoundaries::savedAlready, DandelionBroadcast::saveSnapshot,
            Checks::now, Checks::rejection, Checks::hidden, Checks::past);
        due("4 " + data(listening()), () -> {
            DandelionBroadcast x = listening();
            x.saveSnapshot();
            run(x, "finish;field 1;shield 0 9;gust 0 0;block 1;seed 400;send 2 1");
            return x.restoreSnapshot() + " " + data(x);
        });
        due(5, () -> {
            // Undo takes no snapshot back.
            DandelionBroadcast x = fields(5);
            x.saveSnapshot();
            x.undo();
            x.undo();
            return x.restoreSnapshot();
        });

        sentence("Returns the number of fields.");
        for (int count = 0; count <= 9; count++) {
            int fields = count;
            due(fields, () -> fields(fields).saveSnapshot());
        }
    }

    private static DandelionBroadcast savedAlready() {
        DandelionBroadcast x = listening();
        x.saveSnapshot();
        return x;
    }

    private static void restoreSnapshot() {
        promise(65);
        sentence("Restores the snapshot, which is kept.");
        due("3 3 3", () -> {
            DandelionBroadcast x = fields(3);
            x.saveSnapshot();
            x.addField(1);
            int first = x.restoreSnapshot();
            x.addField(1);
            x.addField(1);
            int second = x.restoreSnapshot();
            return first + " " + second + " " + x.restoreSnapshot();
        });
        due(data(savedAlready()), () -> {
            DandelionBroadcast x = savedAlready();
            x.windUntilEnd();
            x.restoreSnapshot();
            x.abort();
            x.restoreSnapshot();
            return data(x);
        });
        due(nextSeed(30), () -> {
            // The seed belongs to it, so the same draws come again.
            DandelionBroadcast x = sending(2, 9, 1, false);
            x.setSeed(30);
            x.saveSnapshot();
            x.wind();
            x.restoreSnapshot();
            x.wind();
            return x.setSeed(0);
        });

        sentence("No change can be undone after the call.");
        due(STATE, () -> {
            DandelionBroadcast x = savedAlready();
            x.restoreSnapshot();
            return x.undo();
        });
        due("0 " + STATE, () -> {
            DandelionBroadcast x = savedAlready();
            x.addField(1);
            x.restoreSnapshot();
            x.addField(1);
            return undone(x);
        });
        due("7 6 5 4 3 2 1 0 " + STATE, () -> {
            DandelionBroadcast x = seeds(9);
            x.saveSnapshot();
            x.restoreSnapshot();
            for (int seed = 0; seed < 8; seed++) {
                x.setSeed(seed);
            }
            return undone(x);
        });

        sentence("Returns the number of fields.");
        for (int count = 0; count <= 9; count++) {
            int fields = count;
            due(fields, () -> {
                DandelionBroadcast x = fields(fields);
                x.saveSnapshot();
                answer(() -> x.addField(0));
                return x.restoreSnapshot();
            });
        }
        due(0, () -> {
            DandelionBroadcast x = new DandelionBroadcast();
            x.saveSnapshot();
            x.addField(1);
            return x.restoreSnapshot();
        });

        sentence("Throws `IllegalStateException` if there is no snapshot");
        dueThrow(STATE, DandelionBroadcast::new, DandelionBroadcast::restoreSnapshot);
        dueThrow(STATE, () -> full(16), DandelionBroadcast::restoreSnapshot);
        dueThrow(STATE, () -> sending(3, 5, 6, true), DandelionBroadcast::restoreSnapshot);
    }
}
