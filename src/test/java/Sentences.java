import java.io.IOException;
import java.nio.file.Files;
import java.nio.file.Path;
import java.util.Arrays;
import java.util.LinkedHashMap;
import java.util.Map;
import java.util.regex.Matcher;
import java.util.regex.Pattern;

/**
 * The document, sentence by sentence: a test names the part and the words it holds to, and the words must stand
 * there. At the end no word of terms and promises may be left that no test has named.
 */
final class Sentences {
    private static final Path DOCUMENT = Path.of("../shared/DOC.md");

    private final Map<String, String> parts = new LinkedHashMap<>();
    private final Map<String, boolean[]> named = new LinkedHashMap<>();
    private String now = "";
    private int said = 0;
    private int asked = 0;
    private int wrong = 0;

    static Sentences ofDocument() throws IOException {
        Sentences s = new Sentences();
        if (!Files.exists(DOCUMENT)) {
            System.out.println("no document is there: its words are not looked up");
            return s;
        }
        String text = Files.readString(DOCUMENT).replaceAll("```(text)?\n", "");
        String terms = text.substring(text.indexOf("## Terms") + 8, text.indexOf("## Promise 1:"));
        s.cut("\n(I|II|III|IV)\\. (.*?)(?=\n(?:I|II|III|IV)\\. |\nThe constants)", terms);
        s.cut("\n(The constants): (.*?)\\z", terms);
        s.cut("\n## Promise (\\d+): [^\n]*\n\n`[^`]*`: (.*?)(?=\n## )", text);
        return s;
    }

    private void cut(String pattern, String text) {
        Matcher m = Pattern.compile(pattern, Pattern.DOTALL).matcher(text);
        while (m.find()) {
            String words = m.group(2).replaceAll("\\s+", " ").trim();
            parts.put(m.group(1), words);
            named.put(m.group(1), new boolean[words.length()]);
        }
    }

    /** What is asked from here on is due by these words of a part: a promise's number, or I to IV. */
    void says(String part, String words) {
        now = part + " \"" + words + "\": ";
        said++;
        if (parts.isEmpty()) {
            return;
        }
        String text = parts.getOrDefault(part, "");
        int from = text.indexOf(words);
        if (from < 0) {
            wrong("stands nowhere in the document");
            return;
        }
        while (from >= 0) {
            Arrays.fill(named.get(part), from, from + words.length(), true);
            from = text.indexOf(words, from + 1);
        }
    }

    void due(String call, long got, long want) {
        asked++;
        if (got != want) {
            wrong(call + " answered " + got + ", due is " + want);
        }
    }

    void due(String call, String got, String want) {
        asked++;
        if (!got.equals(want)) {
            wrong(call + " answered <" + got + ">, due is <" + want + ">");
        }
    }

    private void wrong(String what) {
        wrong++;
        System.out.println(now + what);
    }

    /** A ship told without a fault. */
    KeptApart ship(String text) {
        KeptApart x = new KeptApart();
        due("lines of " + text, Texts.ship(x, text), text.chars().filter(c -> c == ';').count());
        return x;
    }

    /** A text with a bar where its fault is due; without a bar no fault is. */
    void text(int fault, String marked) {
        KeptApart x = new KeptApart();
        int at = marked.indexOf('|');
        String text = marked.replace("|", "");
        int lines = Texts.ship(x, text);
        due("a fault in " + marked, lines == -4 ? 1 : 0, at < 0 ? 0 : 1);
        due("fault(0) of " + marked, x.fault(0), fault);
        due("fault(1) of " + marked, x.fault(1), at);
    }

    private void lookForUnnamed() {
        now = "";
        for (Map.Entry<String, String> part : parts.entrySet()) {
            boolean[] marks = named.get(part.getKey());
            StringBuilder left = new StringBuilder();
            for (int i = 0; i < marks.length; i++) {
                left.append(marks[i] ? ' ' : part.getValue().charAt(i));
            }
            String words = left.toString().replaceAll("\\s+", " ").trim();
            if (words.matches(".*\\w.*")) {
                wrong("no test names of " + part.getKey() + ": " + words);
            }
        }
    }

    void close(String name) {
        lookForUnnamed();
        if (!parts.isEmpty() && parts.size() != 53 + 4 + 1) {
            wrong("the document has " + parts.size() + " parts");
        }
        System.out.println(name + ": " + said + " sentences, " + asked + " asked, " + wrong + " wrong");
        if (wrong > 0) {
            System.exit(1);
        }
    }
}
