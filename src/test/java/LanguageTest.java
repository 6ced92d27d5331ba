import java.lang.reflect.Constructor;
import java.lang.reflect.Field;
import java.lang.reflect.Method;
import java.lang.reflect.Modifier;
import java.nio.file.Files;
import java.nio.file.Path;
import java.util.ArrayList;
import java.util.Arrays;
import java.util.List;
import java.util.TreeSet;
import java.util.regex.Matcher;
import java.util.regex.Pattern;

/** The document's face, and what of the rules for the program can be seen by looking at it. */
public final class LanguageTest {
    private static final Checks CHECKS = new Checks();
    private static final String[] FACE = {
        "int feed(int,int,int,int,int)", "int end(int)", "int ship()", "int fault(int)", "int count(int)", "int wall(int)",
        "int level(int,int)", "int kind(int)", "int apart(int,int)", "int box(int,int)", "int at(int)", "int between(int,int,int)",
        "int far(int,int,int)", "int why(int,int)", "int nearIn(int,int)", "int may(int,int)", "int puts(int,int)", "int lifts(int)",
        "int opens(int,int)", "int books(int,int,int)", "int near(int)", "int nearTo(int)", "int doors(int)", "int weighs(int,int,int)",
        "long lean(int)", "int over()", "int restows(int)", "int load(int)", "int effort(int)", "int greedy()", "int told(int)",
        "int takes()", "int loads()", "int shifts(int,int,int)", "int shift(int,int)", "long ways(int)", "int span()",
        "int bayOf(int,int)", "int hang(int)", "int clears()", "int undo()", "int tell(int)", "int octet(int)",
        "int stack(int,int,int,int)", "int kindsIn(int)", "int free(int)", "int loosest(int)", "int voyage(int)", "int clear(int,int)",
        "int swaps(int,int)", "int steady()", "int label(int)"};
    /** Rules 2, 4, 6, 12, 13, as far as words show them. */
    private static final String[] FORBIDDEN = {
        "throw", "throws", "try", "catch", "finally", "synchronized", "assert", "Exception", "Thread", "Random", "nanoTime",
        "currentTimeMillis", "File", "Object", "hashCode", "toString", "getClass", "native", "volatile", "transient", "protected", "var"};

    private LanguageTest() {
    }

    public static void main(String[] args) throws Exception {
        face();
        classes();
        source(Files.readString(Path.of("src/main/java/KeptApart.java")));
        CHECKS.close("LanguageTest");
    }

    private static void face() {
        CHECKS.due("public and final", KeptApart.class.getModifiers(), Modifier.PUBLIC | Modifier.FINAL);
        List<String> names = new ArrayList<>();
        TreeSet<String> found = new TreeSet<>();
        for (Method m : KeptApart.class.getDeclaredMethods()) {
            if (Modifier.isPublic(m.getModifiers())) {
                found.add(m.getReturnType() + " " + m.getName() + Arrays.toString(m.getParameterTypes()).replace(", ", ",").replace('[', '(').replace(']', ')'));
                names.add(m.getName());
            }
        }
        CHECKS.due("the public methods", found.toString(), new TreeSet<>(Arrays.asList(FACE)).toString());
        CHECKS.due("the constructors", Arrays.toString(KeptApart.class.getDeclaredConstructors()), "[public KeptApart()]");
        TreeSet<String> fields = new TreeSet<>();
        for (Field f : KeptApart.class.getDeclaredFields()) {
            if (!Modifier.isPrivate(f.getModifiers())) {
                fields.add(f.toString());
            }
        }
        CHECKS.due("the fields", fields.toString(), "[public static final int KeptApart.NONE, public static final int KeptApart.TOO_LONG, "
            + "public static final long KeptApart.NO_SUCH]");
        for (Method m : KeptApart.class.getDeclaredMethods()) {
            boolean isPrivate = Modifier.isPrivate(m.getModifiers());
            CHECKS.due(m + " is public or private", isPrivate || Modifier.isPublic(m.getModifiers()) ? 1 : 0, 1);
            CHECKS.due(m + " has a name of its own", isPrivate && names.contains(m.getName()) ? 1 : 0, 0);
        }
        for (Class<?> c : KeptApart.class.getDeclaredClasses()) {
            for (Method m : c.getDeclaredMethods()) {
                CHECKS.due(m + " has a name of its own", names.contains(m.getName()) ? 1 : 0, 0);
            }
        }
    }

    private static void classes() {
        Class<?>[] inside = KeptApart.class.getDeclaredClasses();
        CHECKS.due("at most twelve classes", inside.length + 1 <= 12 ? 1 : 0, 1);
        List<Class<?>> all = new ArrayList<>(Arrays.asList(inside));
        all.add(KeptApart.class);
        for (Class<?> c : all) {
            if (c != KeptApart.class) {
                CHECKS.due(c + " is static", Modifier.isStatic(c.getModifiers()) ? 1 : 0, 1);
                CHECKS.due(c + " is not public", Modifier.isPublic(c.getModifiers()) || Modifier.isProtected(c.getModifiers()) ? 1 : 0, 0);
                CHECKS.due(c + " has no classes inside", c.getDeclaredClasses().length, 0);
            }
            int own = 0;
            for (Field f : c.getDeclaredFields()) {
                if (Modifier.isStatic(f.getModifiers())) {
                    CHECKS.due(f + " is a constant", Modifier.isFinal(f.getModifiers()) && f.getType().isPrimitive() ? 1 : 0, 1);
                } else {
                    own++;
                }
            }
            CHECKS.due(c + " has at most twenty fields", own <= 20 ? 1 : 0, 1);
            for (Method m : c.getDeclaredMethods()) {
                CHECKS.due(m + " has at most seven parameters", m.getParameterCount() <= 7 ? 1 : 0, 1);
            }
            for (Constructor<?> k : c.getDeclaredConstructors()) {
                CHECKS.due(k + " has at most seven parameters", k.getParameterCount() <= 7 ? 1 : 0, 1);
            }
        }
    }

    private static void source(String text) {
        String code = text.replaceAll("(?s)/\\*.*?\\*/", "").replaceAll("//[^\n]*", "");
        CHECKS.due("no package", code.contains("package ") ? 1 : 0, 0);
        TreeSet<String> imports = new TreeSet<>();
        Matcher matcher = Pattern.compile("import ([\\w.]+);").matcher(code);
        while (matcher.find()) {
            imports.add(matcher.group(1));
        }
        CHECKS.due("imports", imports.toString(), "[java.util.Arrays]");
        String bare = code.replaceAll("\"[^\"]*\"", "\"\"");
        for (String word : FORBIDDEN) {
            CHECKS.due("the word " + word, Pattern.compile("\\b" + word + "\\b").matcher(bare).find() ? 1 : 0, 0);
        }
        CHECKS.due("no lambda", bare.contains("->") ? 1 : 0, 0);
        CHECKS.due("no method reference", bare.contains("::") ? 1 : 0, 0);
        CHECKS.due("signs 1 to 127 alone", text.chars().anyMatch(c -> c < 1 || c > 127) ? 1 : 0, 0);
        // rows are made with their object: nothing is made by a call
        for (String line : bare.split("\n")) {
            boolean isField = line.matches(" {4,8}(private )?(final )?[\\w\\[\\]]+ \\w+ = new .*");
            CHECKS.due("made by a call: " + line, line.contains("new ") && !isField ? 1 : 0, 0);
        }
        rowsAreTested(bare);
        lengths(bare);
    }


    /** Brackets stand in the two functions that test the index, and where types are named. */
    private static void rowsAreTested(String bare) {
        Matcher matcher = Pattern.compile("\\w\\[[^\\]]+\\]").matcher(bare);
        int found = 0;
        while (matcher.find()) {
            boolean isNew = bare.substring(0, matcher.start() + 1).matches("(?s).*new int$");
            if (!isNew) {
                found++;
                CHECKS.due("an index: " + matcher.group(), matcher.group(), "w[i]");
            }
        }
        CHECKS.due("two rows are indexed", found, 2);
    }

    /** Some sixty lines a method at most. */
    private static void lengths(String bare) {
        int begun = -1;
        String[] lines = bare.split("\n");
        for (int i = 0; i < lines.length; i++) {
            if (lines[i].matches(" {4}( {4})?[\\w\\[\\] ]+\\([^;]*\\) \\{")) {
                begun = i;
            } else if (begun >= 0 && lines[i].matches(" {4}( {4})?\\}")) {
                CHECKS.due("length of " + lines[begun].trim(), i - begun < 60 ? 1 : 0, 1);
                begun = -1;
            }
        }
    }
}
