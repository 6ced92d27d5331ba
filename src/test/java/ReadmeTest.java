import java.lang.reflect.Field;
import java.lang.reflect.Method;
import java.lang.reflect.Modifier;
import java.nio.file.Files;
import java.nio.file.Path;
import java.util.ArrayList;
import java.util.List;
import java.util.regex.Matcher;
import java.util.regex.Pattern;

/** README.md says nothing that is not so: its example is run, and what it must name is looked for. */
public final class ReadmeTest {
    private static final Checks CHECKS = new Checks();

    private ReadmeTest() {
    }

    public static void main(String[] args) throws Exception {
        String page = Files.readString(Path.of("README.md"));
        List<String> codes = blocks(page, "java");
        CHECKS.due("blocks of java", codes.size(), 2);
        CHECKS.due("blocks of text", blocks(page, "text").size(), 1);
        helper(codes.get(0), Files.readString(Path.of("src/test/java/ReadmeTest.java")));
        example(blocks(page, "text").get(0), codes.get(1));
        lines(page);
        names(page);
        CHECKS.close("ReadmeTest");
    }

    private static List<String> blocks(String page, String language) {
        List<String> found = new ArrayList<>();
        Matcher m = Pattern.compile("```" + language + "\n(.*?)```", Pattern.DOTALL).matcher(page);
        while (m.find()) {
            found.add(m.group(1));
        }
        return found;
    }

    /** The page's helper is the one below, so that it is known to compile and to work. */
    private static void helper(String code, String own) {
        CHECKS.due("the helper stands in this test", own.contains(code.indent(4)) ? 1 : 0, 1);
    }

    static int sail(KeptApart x, String text) {
        x.end(0);
        for (int from = 0; from < text.length(); from += 20) {
            int[] n = new int[5];
            for (int i = 0; i < 20; i++) {
                int c = from + i < text.length() ? text.charAt(from + i) : ' ';
                n[i / 4] = n[i / 4] << 8 | c;
            }
            x.feed(n[0], n[1], n[2], n[3], n[4]);
        }
        x.end(text.length());
        return x.ship();
    }

    /** Each line of the example names the answer that is due behind it. */
    private static void example(String text, String code) throws Exception {
        KeptApart x = new KeptApart();
        int calls = 0;
        for (String line : code.split("\n")) {
            Matcher m = Pattern.compile("(?:x\\.)?(\\w+)\\(([^)]*)\\); *// (-?\\d+): (.*)").matcher(line);
            if (!m.matches()) {
                CHECKS.due("a line of the example", line, "KeptApart x = new KeptApart();");
                continue;
            }
            long got = m.group(1).equals("sail") ? sail(x, text) : call(x, m.group(1), m.group(2));
            CHECKS.due("README.md: " + line, got, Long.parseLong(m.group(3)));
            if (m.group(1).equals("label")) {
                CHECKS.due("README.md: " + line, Texts.out(x), m.group(4));
            }
            calls++;
        }
        CHECKS.due("calls in the example", calls > 20 ? 1 : 0, 1);
    }

    private static long call(KeptApart x, String name, String arguments) throws Exception {
        String[] words = arguments.isEmpty() ? new String[0] : arguments.split(", ");
        Object[] boxed = new Object[words.length];
        Class<?>[] types = new Class<?>[words.length];
        for (int i = 0; i < words.length; i++) {
            boxed[i] = Integer.parseInt(words[i]);
            types[i] = int.class;
        }
        return ((Number) KeptApart.class.getMethod(name, types).invoke(x, boxed)).longValue();
    }

    /** Each line that the page tells of is taken in a text, with what may be left out and without it. */
    private static void lines(String page) {
        Matcher table = Pattern.compile("\\| line \\|(.*?)\n\n", Pattern.DOTALL).matcher(page);
        CHECKS.due("the lines are told", table.find() ? 1 : 0, 1);
        Matcher m = Pattern.compile("`((?:ship|wall|bears|level|kind|apart|box)[^`]*)`").matcher(table.group(1));
        int found = 0;
        while (m.find()) {
            taken(m.group(1).replace("[", "").replace("]", ""));
            taken(m.group(1).replaceAll(" \\[[^\\]]*\\]", ""));
            found++;
        }
        CHECKS.due("forms of lines", found, 10);
    }

    private static void taken(String form) {
        String line = form.replaceAll("\\bN\\b", "1").replaceAll("\\bL\\b", "1").replaceAll("\\b[BK]\\b", "0");
        boolean isShip = line.startsWith("ship");
        String level = line.startsWith("level") ? "" : "level 1 across 1 along 1;";
        String text = isShip ? line + ";" : "ship bays 2 rows 1 hold 1 deck 1;" + level + "kind;" + line + ";";
        CHECKS.due(text, sail(new KeptApart(), text), text.chars().filter(c -> c == ';').count());
    }

    private static void names(String page) throws Exception {
        for (Method m : KeptApart.class.getDeclaredMethods()) {
            if (Modifier.isPublic(m.getModifiers())) {
                boolean named = Pattern.compile("`" + m.getName() + "\\(").matcher(page).find();
                CHECKS.due("README.md names " + m.getName(), named ? 1 : 0, 1);
            }
        }
        for (Field f : KeptApart.class.getDeclaredFields()) {
            if (Modifier.isPublic(f.getModifiers())) {
                CHECKS.due("README.md names " + f.getName(), page.contains("| `" + f.getName() + "` (") ? 1 : 0, 1);
            }
        }
        for (int answer = -1; answer >= -6; answer--) {
            boolean told = Pattern.compile("\n\\| (`\\w+` \\()?" + answer + "\\)? \\|").matcher(page).find();
            CHECKS.due("README.md tells what " + answer + " means", told ? 1 : 0, 1);
        }
        CHECKS.due("README.md tells how tests are run", page.contains(".ci/run") ? 1 : 0, 1);
        try (var files = Files.list(Path.of("src/test/java"))) {
            for (Path file : (Iterable<Path>) files::iterator) {
                String name = file.getFileName().toString().replace(".java", "");
                if (name.endsWith("Test")) {
                    CHECKS.due("README.md names " + name, page.contains("- `" + name + "`") ? 1 : 0, 1);
                }
            }
        }
    }
}
