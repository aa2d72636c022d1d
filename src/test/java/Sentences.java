import java.io.IOException;
import java.nio.file.Files;
import java.nio.file.Path;
import java.util.ArrayList;
import java.util.LinkedHashMap;
import java.util.List;
import java.util.Map;

/**
 * Tests that each stand under the words of the document that they hold Bags to. The words must be found in the
 * document, and each sentence of the parts that were gone through must have a test.
 */
abstract class Sentences extends Checks {
    private static final Map<String, String> PARTS = new LinkedHashMap<>();
    private static final Map<String, List<String>> TESTED = new LinkedHashMap<>();
    private static String part = "";
    private static int tests = 0;

    static final String BAG = "Throws `IndexOutOfBoundsException` if bag is not 0 to 3";
    static final String OVERFULL = "Throws `IllegalStateException` if the BAG would be OVERFULL";

    /** A part is a section of the description, "1. Bags", what stands behind them, or a promise, "2: put". */
    private static void read() {
        String key = "head";
        try {
            for (String line : Files.readAllLines(Path.of("../shared/DOC.md"))) {
                if (line.startsWith("== ") || line.startsWith("## ")) {
                    key = line.replaceFirst("^(== |## Promise |## )", "");
                    continue;
                }
                if (line.startsWith("A method that throws")) {
                    key = "behind";
                }
                PARTS.merge(key, line.trim(), (known, more) -> known + "\n" + more);
            }
        } catch (IOException e) {
            throw new IllegalStateException("the document cannot be read", e);
        }
    }

    static void part(String key) {
        if (PARTS.isEmpty()) {
            read();
        }
        part = key;
        testing(key);
        TESTED.put(key, new ArrayList<>());
        if (!PARTS.containsKey(key)) {
            fail("is no part of the document");
        }
    }

    static void sentence(String words, Call test) {
        testing(part + ", \"" + words + "\"");
        if (!PARTS.getOrDefault(part, "").contains(words)) {
            fail("does not stand in the document");
        }
        TESTED.get(part).add(words);
        tests++;
        try {
            test.make();
        } catch (RuntimeException e) {
            fail("threw " + e);
        }
    }

    private static boolean isTested(String sentence, List<String> tested) {
        for (String words : tested) {
            if (words.contains(sentence) || sentence.contains(words)) {
                return true;
            }
        }
        return false;
    }

    /** What tells but a name or what is given, "- `bag`: a BAG", has nothing to be tested. */
    private static boolean hasNothing(String sentence) {
        return sentence.isEmpty() || sentence.startsWith("---- ") || sentence.startsWith("The constructor and the methods")
            || sentence.matches("`(int|long|boolean|String|Bags).*`") || sentence.matches("- `\\w+`: [^0-9]*");
    }

    /** Each promise from the first to the last one must have been gone through. */
    static void finish(String name, int first, int last) {
        for (int number = first; number <= last; number++) {
            String start = number + ": ";
            if (TESTED.keySet().stream().noneMatch(key -> key.startsWith(start))) {
                fail("promise " + number + " was not gone through");
            }
        }
        finish(name);
    }

    static void finish(String name) {
        for (String key : TESTED.keySet()) {
            testing(key);
            for (String sentence : PARTS.getOrDefault(key, "").split("\n|(?<=[.]) (?=[A-Z-])")) {
                String words = sentence.replaceFirst("[.]$", "");
                if (!hasNothing(words) && !isTested(words, TESTED.get(key))) {
                    fail("no test for \"" + words + "\"");
                }
            }
        }
        report(name + ": " + tests + " tests of sentences");
    }
}
