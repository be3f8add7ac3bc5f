import java.io.IOException;
import java.io.UncheckedIOException;
import java.nio.charset.StandardCharsets;
import java.nio.file.Files;
import java.nio.file.Path;
import java.util.ArrayList;
import java.util.List;
import java.util.Map;
import java.util.TreeMap;
import java.util.regex.Matcher;
import java.util.regex.Pattern;

/**
 * Words of the document that name an edge, each with a test of its own. The words are looked for in the document
 * (the property 'doc' tells its path), so that none is left that names an edge and has no test.
 */
final class Edge {
    /** What stands ahead of the promises, by numbers like theirs. */
    static final int WHAT_IT_IS = -1;
    static final int TERMS = 0;
    private static final Pattern NAMES_AN_EDGE = Pattern.compile("[Rr]efused|NONE|-[123]\\b|-10000|NoSuchElementException"
        + "|[0-9]+(: [a-z ]+)? \\.\\. ?[0-9]*|at most|at first|[Nn]othing\\b|empty|empties|more than|fewer than|or less|or more"
        + "|too early|no room|not so (many|much)|below|above|missing|behind it|by 0|cut to|[Aa]s ints|without sign\\b|lowest"
        + "|equal ones|like ones|as (few|good|many|large)( ones)?\\b(?! as)|\\b[Nn]o PEOPLE|\\b[Nn]o more|forget them"
        + "|\\bnone\\b|can't|CAN'T|alone SAY|any many|1 to 3|0 by 1|rest\\)|least row|as it grew");
    private static final Map<Integer, List<String>> TESTED = new TreeMap<>();

    private Edge() {
    }

    /** Runs the test of these words of a promise. */
    static void of(int promise, String words, Runnable test) {
        TESTED.computeIfAbsent(promise, p -> new ArrayList<>()).add(words);
        Due.within(head(promise) + " '" + words + "'");
        int asked = Due.asked();
        test.run();
        Due.is("the test asks for nothing", Due.asked() == asked, false);
        Due.within("");
    }

    /** Ends the test: from the first promise to the last, each edge that the document names had its test. */
    static void ends(int first, int last) {
        String path = System.getProperty("doc");
        if (path == null || !Files.exists(Path.of(path))) {
            System.out.println("the document is not there: the words of the edges were not looked for in it");
        } else {
            String doc = read(path);
            for (int promise = first; promise <= last; promise++) {
                compare(promise, section(doc, promise), TESTED.getOrDefault(promise, List.of()));
            }
        }
        Due.ends();
    }

    private static String read(String path) {
        try {
            return Files.readString(Path.of(path), StandardCharsets.UTF_8);
        } catch (IOException e) {
            throw new UncheckedIOException(e);
        }
    }

    private static String head(int promise) {
        return promise == WHAT_IT_IS ? "What it is" : promise == TERMS ? "Terms" : "Promise " + promise + ":";
    }

    /** What the document says of a promise, behind its head, with single blanks. */
    private static String section(String doc, int promise) {
        String head = "\n## " + head(promise);
        int begin = doc.indexOf(head);
        int end = doc.indexOf("\n## ", begin + 1);
        if (begin < 0 || end < 0) {
            return "";
        }
        String all = doc.substring(begin + head.length(), end).replaceAll("\\s+", " ");
        return promise <= TERMS ? all : all.substring(all.indexOf("`: ") + 3);
    }

    private static void compare(int promise, String section, List<String> tested) {
        boolean[] told = new boolean[section.length()];
        for (String words : tested) {
            int at = section.indexOf(words);
            Due.is(head(promise) + " has '" + words + "' once", at >= 0 && section.indexOf(words, at + 1) < 0, true);
            for (int i = Math.max(at, 0); i < at + words.length() && at >= 0; i++) {
                told[i] = true;
            }
        }
        Matcher named = NAMES_AN_EDGE.matcher(section);
        while (named.find()) {
            boolean whole = true;
            for (int i = named.start(); i < named.end(); i++) {
                whole &= told[i];
            }
            String around = section.substring(Math.max(0, named.start() - 30), Math.min(section.length(), named.end() + 20));
            Due.is(head(promise) + " has a test of '" + named.group() + "' in '.. " + around + " ..'", whole, true);
        }
        Due.is(head(promise) + " has a test of an edge", tested.isEmpty(), false);
    }
}
