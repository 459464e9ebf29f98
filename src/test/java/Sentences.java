import java.io.IOException;
import java.nio.file.Files;
import java.nio.file.Path;
import java.util.BitSet;
import java.util.LinkedHashMap;
import java.util.Map;

/**
 * What the document promises, sentence by sentence: a test names the sentence that it is of, in the
 * document's own words, and at the end none may be left that no test has named.
 */
final class Sentences {
    private final Check check;
    private final Map<String, String> texts = new LinkedHashMap<>();
    private final Map<String, BitSet> named = new LinkedHashMap<>();
    private String section = "";

    Sentences(Check check) throws IOException {
        this.check = check;
        String doc = Files.readString(Path.of(System.getProperty("doc", "../shared/DOC.md")));
        for (String part : doc.split("(?m)^## ")) {
            String name = part.lines().findFirst().orElse("");
            if (name.equals("Terms") || name.startsWith("Promise ")) {
                texts.put(name, plain(part.substring(name.length())));
                named.put(name, new BitSet());
            }
        }
    }

    /** Without what only sets the text out, and without each promise's signature. */
    private static String plain(String text) {
        return text.replaceAll("```(text)?|====( \\d\\.)?|`[^`]*`: ", " ").replaceAll("\\s+", " ").trim();
    }

    void in(String name) {
        check.due("the document has " + name, true, texts.containsKey(name));
        section = name;
    }

    /** Names a sentence of the section, the next one of those that are alike. */
    void of(String sentence) {
        String text = texts.getOrDefault(section, "");
        BitSet bits = named.getOrDefault(section, new BitSet());
        int at = text.indexOf(sentence);
        while (at >= 0 && bits.get(at)) {
            at = text.indexOf(sentence, at + 1);
        }
        check.due(section + " has the sentence: " + sentence, true, at >= 0);
        if (at >= 0) {
            bits.set(at, at + sentence.length());
        }
    }

    /** Tells what no test has named. */
    void close() {
        for (String name : texts.keySet()) {
            String text = texts.get(name);
            BitSet bits = named.get(name);
            for (int from = bits.nextClearBit(0); from < text.length(); ) {
                int to = bits.nextSetBit(from);
                to = to < 0 ? text.length() : to;
                String left = text.substring(from, to);
                check.due(name + " has what no test is of: " + left, false, left.matches(".*[A-Za-z0-9].*"));
                from = bits.nextClearBit(to);
            }
        }
    }
}
