import java.io.ByteArrayOutputStream;
import java.io.IOException;
import java.io.PrintStream;
import java.nio.file.Files;
import java.nio.file.Path;
import java.util.ArrayList;
import java.util.List;

/** The examples of README.md are the lines of the method below, and print what stands behind them there. */
public final class ReadmeTests {
    private static int wrong = 0;

    public static void main(String[] args) throws IOException {
        List<String> shown = linesBetween(Path.of("README.md"), "```java", "```");
        List<String> played = linesBetween(Path.of("src", "test", "java", "ReadmeTests.java"), "// from here", "// to here");
        same("the lines of the examples", withoutComments(played), withoutComments(shown));
        same("what the examples print", dueLines(shown), printedLines());
        System.out.println(wrong == 0 ? "the examples of README.md print what they should" : wrong + " things differ");
        if (wrong != 0) {
            System.exit(1);
        }
    }

    private static void playExamples() {
        // from here
        DandelionBroadcast x = new DandelionBroadcast();
        int near = x.addField(0);
        int far = x.addField(4);
        int path = x.addPath(near, far, 2, 9);
        System.out.println(x.wayCost(far, near));
        System.out.println(x.reachChance(near, far));
        x.startBroadcast(near, 3, true);
        System.out.println(x.windsLeft());
        System.out.println(x.wind());
        System.out.println(x.windUntilEnd());
        System.out.println(x.isCovered(far));
        System.out.println(x.useOf(path));
        int length = x.writeField(far);
        for (int i = 0; i < length; i++) {
            System.out.print(x.outputAt(i));
        }
        System.out.println();
        System.out.println(x.undo());
        System.out.println(x.isBroadcasting());
        System.out.println(x.saveSnapshot());
        System.out.println(x.abort());
        System.out.println(x.restoreSnapshot());
        for (char sign : "abort;field 3;path 0-2 1 0;send 0 2+;finish".toCharArray()) {
            x.appendInput(sign);
        }
        System.out.println(x.execute());
        System.out.println(x.isCovered(2));
        try {
            x.setBlocked(path, false);
        } catch (UnsupportedOperationException e) {
            System.out.println(x.rejectionReason());
            System.out.println(x.rejectionDetail());
        }
        // to here
    }

    private static void same(String what, List<String> want, List<String> got) {
        if (!want.equals(got)) {
            wrong++;
            System.out.println(what + ": " + got + ", due are " + want);
        }
    }

    private static List<String> linesBetween(Path file, String start, String end) throws IOException {
        List<String> found = new ArrayList<>();
        boolean inside = false;
        for (String line : Files.readAllLines(file)) {
            if (line.strip().equals(inside ? end : start)) {
                inside = !inside;
            } else if (inside) {
                found.add(line);
            }
        }
        return found;
    }

    private static List<String> withoutComments(List<String> lines) {
        List<String> found = new ArrayList<>();
        for (String line : lines) {
            found.add(line.replaceFirst("//.*", "").strip());
        }
        return found;
    }

    /** What the comment behind a line that ends a line of output says, up to a ": ". */
    private static List<String> dueLines(List<String> lines) {
        List<String> found = new ArrayList<>();
        for (String line : lines) {
            if (line.contains("println(")) {
                found.add(line.replaceFirst(".*// ", "").replaceFirst(": .*", ""));
            }
        }
        return found;
    }

    private static List<String> printedLines() {
        PrintStream usual = System.out;
        ByteArrayOutputStream printed = new ByteArrayOutputStream();
        System.setOut(new PrintStream(printed, true));
        playExamples();
        System.setOut(usual);
        return printed.toString().lines().toList();
    }
}
