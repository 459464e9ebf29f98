import java.util.ArrayList;
import java.util.List;

/** What the tests share: telling texts, and counting the answers that are not due. */
final class Check {
    private int asked = 0;
    private final List<String> wrong = new ArrayList<>();

    void due(String what, long want, long got) {
        asked++;
        if (want != got) {
            wrong.add(what + " answered " + got + ", due is " + want);
        }
    }

    void due(String what, boolean want, boolean got) {
        due(what, want ? 1 : 0, got ? 1 : 0);
    }

    /** Ends the program as .ci/run wants it. */
    void close(String test) {
        for (int i = 0; i < wrong.size() && i < 40; i++) {
            System.out.println(test + ": " + wrong.get(i));
        }
        System.out.println(test + ": " + asked + " answers, " + wrong.size() + " not as due");
        if (!wrong.isEmpty() || asked == 0) {
            System.exit(1);
        }
    }

    /** Puts a text on the tape, which must be empty, and cuts it behind the text. */
    static void tape(RockingPorch porch, String text) {
        int[] words = words(text);
        for (int i = 0; i < words.length; i += 5) {
            porch.feed(words[i], words[i + 1], words[i + 2], words[i + 3], words[i + 4]);
        }
        porch.end(text.length());
    }

    static int tell(RockingPorch porch, int k, String text) {
        tape(porch, text);
        return porch.text(k);
    }

    /** The text as numbers of four bytes, filled up with blanks to whole feeds of five. */
    static int[] words(String text) {
        int feeds = (text.length() + 19) / 20;
        int[] words = new int[feeds * 5];
        for (int i = 0; i < words.length * 4; i++) {
            int c = i < text.length() ? text.charAt(i) : ' ';
            words[i / 4] = words[i / 4] << 8 | c;
        }
        return words;
    }
}
