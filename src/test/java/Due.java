import java.io.IOException;
import java.nio.file.Files;
import java.nio.file.Path;
import java.util.ArrayList;
import java.util.HashSet;
import java.util.List;
import java.util.Set;

/** What the boundary tests find: each check belongs to a sentence of ../shared/DOC.md and to its promise. */
final class Due {
    static final int UNKNOWN = -1;
    static final int BAD_VALUE = -2;
    static final int FULL = -3;
    static final int NONE = -5;
    static final int LEAST = Integer.MIN_VALUE;
    static final int MOST = Integer.MAX_VALUE;

    private static final int PROMISES = 25;
    private static final String WITHOUT_BOUNDARY = "[A-Z]+|Ahead of the calls .*";

    /** Section 0 has what binds all promises (What it is, Terms), section n the Promise n. */
    private static final List<String> sections = new ArrayList<>();
    private static final List<Set<String>> quotes = new ArrayList<>();
    private static int checks = 0;
    private static int wrong = 0;
    private static int checksBefore = 0;
    private static String told = "";

    private Due() {
    }

    static void readDocument(Path path) throws IOException {
        String text = Files.readString(path);
        for (int section = 0; section <= PROMISES; section++) {
            String from = section == 0 ? "## Terms\n" : "## Promise " + section + ":";
            String to = section == PROMISES ? "## Not promised\n" : "## Promise " + (section + 1) + ":";
            String about = section == 0 ? between(text, "## What it is\n", "## The public face\n") : "";
            sections.add(plain(about + between(text, from, to)));
            quotes.add(new HashSet<>());
        }
    }

    /** What stands between two headings; nothing if they are not there. */
    private static String between(String text, String heading, String next) {
        int from = text.indexOf("\n" + heading);
        int to = text.indexOf("\n" + next);
        return from < 0 || to < from ? "" : text.substring(text.indexOf('\n', from + 1), to);
    }

    private static String plain(String text) {
        return text.replace("`", "").replaceAll("[ \\t]+", " ");
    }

    /** The checks that follow are of this sentence, and of those named just ahead of it. */
    static void sentence(int promise, String quote) {
        String name = "promise " + promise + ", \"" + quote + "\"";
        told = checks == checksBefore && !told.isEmpty() ? told + " and " + name : name;
        checksBefore = checks;
        boolean inTerms = sections.get(0).contains(quote);
        boolean inPromise = sections.get(promise).contains(quote);
        if (!inTerms && !inPromise) {
            fault("the document has no such sentence there");
        }
        if (inTerms) {
            quotes.get(0).add(quote);
        }
        if (inPromise) {
            quotes.get(promise).add(quote);
        }
    }

    static void is(String what, int got, int want) {
        checks++;
        if (got != want) {
            fault(what + " is " + got + ", due is " + want);
        }
    }

    static void fault(String text) {
        wrong++;
        System.out.println(told + ": " + text);
    }

    /** Tells what was found, and each sentence of the document that no test names. */
    static boolean end() {
        if (checks == checksBefore) {
            fault("nothing is checked of it");
        }
        for (int section = 0; section <= PROMISES; section++) {
            told = section == 0 ? "What it is, Terms" : "promise " + section;
            List<String> all = sentencesOf(sections.get(section));
            if (all.isEmpty()) {
                fault("not in the document");
            }
            for (String sentence : all) {
                if (quotes.get(section).stream().noneMatch(q -> sentence.contains(q) || q.contains(sentence))) {
                    fault("no test names \"" + sentence + "\"");
                }
            }
        }
        System.out.println(checks + " checks of sentences, " + wrong + " wrong");
        return wrong == 0;
    }

    /** In the Terms a sentence ends with a point; in a promise each error and each number has its own piece. */
    private static List<String> sentencesOf(String section) {
        List<String> sentences = new ArrayList<>();
        for (String line : section.split("\n")) {
            if (line.matches(WITHOUT_BOUNDARY)) {
                continue;
            }
            String words = line.replaceFirst("^(?:int )?\\w+\\(.*?\\): ", "");
            boolean isAnswer = words.startsWith("Returns ") || words.startsWith("- ");
            String pieces = isAnswer ? "; |, (?=\\d\\d? (?:for|to) )" : "(?<=[.)]) (?=[A-Z(])";
            for (String piece : words.replaceFirst("^- what: ", "").split(pieces)) {
                if (!piece.isBlank()) {
                    sentences.add(piece.trim());
                }
            }
        }
        return sentences;
    }
}
