import java.io.IOException;
import java.nio.charset.StandardCharsets;
import java.nio.file.Files;
import java.nio.file.Path;
import java.util.ArrayList;
import java.util.List;
import java.util.Set;
import java.util.regex.Matcher;
import java.util.regex.Pattern;

/**
 * Which sentence of the document the checks hold now, and whether the sentences that they name and those of the
 * document are the same ones. A section is the number of a promise, or 0 for "Description".
 */
final class Sentences {
    static final int DESCRIPTION = 0;
    private static final Pattern PROMISE = Pattern.compile("## Promise ([0-9]+): .*");
    private static final Set<String> HEADINGS = Set.of("Hopper.", "Stations.", "Buyers.", "Texts.", "Errors of a text.",
        "A tick is made in this way:", "The constants:",
        "The constructor and the methods follow, a promise each: the signature, then what it does.");

    private static final List<Sentence> HELD = new ArrayList<>();
    private static String heldNow = "";

    private record Sentence(int section, String words) {
        boolean isPartOf(Sentence other) {
            return section == other.section && other.words.contains(words);
        }

        @Override
        public String toString() {
            return (section == DESCRIPTION ? "Description" : "Promise " + section) + ": " + words;
        }
    }

    private Sentences() {
    }

    /** The checks that follow hold this sentence, or this part of one, and those that say nothing without it. */
    static void holds(int section, String words, String... alongWithIt) {
        Sentence sentence = new Sentence(section, words);
        HELD.add(sentence);
        for (String others : alongWithIt) {
            HELD.add(new Sentence(section, others));
        }
        heldNow = "[" + sentence + "] ";
    }

    static String heldNow() {
        return heldNow;
    }

    static void compareWith(Path document) throws IOException {
        heldNow = "";
        List<Sentence> all = sentencesOf(Files.readAllLines(document, StandardCharsets.UTF_8));
        for (Sentence held : HELD) {
            Checks.due("that the document says: " + held, all.stream().anyMatch(held::isPartOf), true);
        }
        for (Sentence said : all) {
            Checks.due("that a test holds: " + said, HELD.stream().anyMatch(held -> held.isPartOf(said)), true);
        }
    }

    private static List<Sentence> sentencesOf(List<String> lines) {
        List<Sentence> all = new ArrayList<>();
        int section = -1;
        for (String line : lines) {
            Matcher promise = PROMISE.matcher(line);
            if (promise.matches()) {
                section = Integer.parseInt(promise.group(1));
            } else if (line.startsWith("## ")) {
                section = line.equals("## Description") ? DESCRIPTION : -1;
            } else if (section >= 0 && !isSignature(line)) {
                addSentences(all, section, line);
            }
        }
        return all;
    }

    private static boolean isSignature(String line) {
        return line.startsWith("`") && line.endsWith("`") || line.startsWith("----");
    }

    private static void addSentences(List<Sentence> all, int section, String line) {
        String plain = line.replace("`", "").replaceFirst("^(- |[0-9]\\. )", "");
        for (String words : plain.split("(?<=\\.) +(?=[A-Z])")) {
            if (!words.isBlank() && !HEADINGS.contains(words.strip())) {
                all.add(new Sentence(section, words.strip()));
            }
        }
    }
}
