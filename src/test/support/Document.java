import java.io.IOException;
import java.nio.file.Files;
import java.nio.file.Path;
import java.util.ArrayList;
import java.util.List;
import java.util.Set;

/** The sentences of the document, to see that each one that should have a check of its own has one. */
final class Document {
    private static final Path PLACE = Path.of("..", "shared", "DOC.md");
    /** With each of these words a part of the terms begins that counts as a section. */
    private static final List<String> TITLES = List.of("Fields", "Paths", "Groups and ways", "Spread trees",
        "Broadcasts", "Winds", "Commands", "Rejections", "Changes", "Exceptions", "Further rules", "The constants");

    private Document() {
    }

    /** Compares the places that were checked, "section: sentence", with the sentences of these sections. */
    static void compare(Set<String> checked, List<String> sections) {
        String text = text();
        if (text.isEmpty()) {
            System.out.println("the document is not there, so its sentences are not compared");
            return;
        }
        List<String> there = new ArrayList<>();
        for (String section : sections) {
            for (String sentence : sentencesOf(bodyOf(text, section))) {
                there.add(section + ": " + sentence);
            }
        }
        for (String place : there) {
            if (!checked.contains(place)) {
                Checks.fail("no check for the sentence " + place);
            }
        }
        for (String place : checked) {
            if (!there.contains(place)) {
                Checks.fail("not in the document: " + place);
            }
        }
    }

    private static String text() {
        try {
            return Files.readString(PLACE);
        } catch (IOException e) {
            return "";
        }
    }

    private static String bodyOf(String text, String section) {
        return TITLES.contains(section) ? paragraphsOf(bodyBelow(text, "Terms"), section) : bodyBelow(text, section);
    }

    /** What stands below the heading, up to the next one. */
    private static String bodyBelow(String text, String heading) {
        for (String part : text.split("(?m)^## ")) {
            if (part.startsWith(heading + "\n") || part.startsWith(heading + ": ")) {
                return part.substring(part.indexOf('\n') + 1);
            }
        }
        return "";
    }

    private static String paragraphsOf(String terms, String section) {
        StringBuilder found = new StringBuilder();
        String own = "";
        for (String paragraph : terms.split("\n\\s*\n")) {
            String rest = paragraph.strip();
            for (String title : TITLES) {
                if (rest.startsWith(title + ". ") || rest.startsWith(title + ": ")) {
                    own = title;
                    rest = rest.substring(title.length() + 2);
                }
            }
            if (own.equals(section)) {
                found.append(rest).append("\n\n");
            }
        }
        return found.toString();
    }

    private static List<String> sentencesOf(String body) {
        List<String> found = new ArrayList<>();
        for (String block : body.split("\n\\s*\n|\n(?=- )")) {
            String line = block.replaceAll("\\s+", " ").strip();
            // Neither a method's face nor the words over a group of calls is a sentence about what a call does.
            line = line.replaceFirst("^`[^`]*\\([^`]*`: ", "").replaceFirst("^Ahead of the calls .*", "");
            for (String sentence : line.split("(?<=[.:]) (?=[A-Z\"])")) {
                if (!sentence.isEmpty() && !found.contains(sentence)) {
                    found.add(sentence);
                }
            }
        }
        return found;
    }
}
