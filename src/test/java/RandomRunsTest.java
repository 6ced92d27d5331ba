import java.lang.reflect.Method;
import java.lang.reflect.Modifier;
import java.util.ArrayList;
import java.util.List;
import java.util.Random;

/** Random runs, each call answered by the class and by the model; the seeds are fixed, so the runs are always the same. */
public final class RandomRunsTest {
    private static final int RUNS = 700;

    private final Random random;
    private final KeptApart x = new KeptApart();
    private final Model m = new Model();
    private final List<String> log = new ArrayList<>();
    private final List<Method> calls;

    private RandomRunsTest(long seed, List<Method> calls) {
        random = new Random(seed);
        this.calls = calls;
    }

    public static void main(String[] args) throws Exception {
        int runs = args.length > 0 ? Integer.parseInt(args[0]) : RUNS;
        long first = args.length > 1 ? Long.parseLong(args[1]) : 1;
        List<Method> calls = new ArrayList<>();
        for (Method method : KeptApart.class.getDeclaredMethods()) {
            if (Modifier.isPublic(method.getModifiers())) {
                calls.add(method);
            }
        }
        calls.sort((a, b) -> a.getName().compareTo(b.getName()));
        for (long seed = first; seed < first + runs; seed++) {
            RandomRunsTest run = new RandomRunsTest(seed, calls);
            if (!run.go()) {
                System.out.println("seed " + seed);
                run.log.forEach(System.out::println);
                System.exit(1);
            }
        }
        System.out.println(runs + " random runs agree with the model");
    }

    private boolean go() throws Exception {
        boolean big = random.nextInt(4) == 0;
        int left = 40 + random.nextInt(400);
        while (left > 0) {
            if (left == 40 || random.nextInt(150) == 0 || m.ship == null && random.nextInt(5) == 0) {
                if (!tellText(random.nextInt(4) == 0 ? broken(text(big)) : text(big))) {
                    return false;
                }
            }
            Method call = random.nextInt(3) == 0 ? favourite() : calls.get(random.nextInt(calls.size()));
            if (isFeeding(call.getName()) && random.nextInt(8) != 0) {
                continue;
            }
            int[] args = new int[call.getParameterCount()];
            for (int i = 0; i < args.length; i++) {
                args[i] = argument(call.getName(), i);
            }
            if (!same(call.getName(), args)) {
                return false;
            }
            left--;
        }
        return true;
    }

    private static boolean isFeeding(String name) {
        return name.equals("ship") || name.equals("feed") || name.equals("end");
    }

    private Method favourite() {
        String[] names = {"puts", "puts", "puts", "lifts", "opens", "books", "takes", "loads", "undo", "swaps", "greedy", "load", "clears"};
        String name = names[random.nextInt(names.length)];
        return calls.stream().filter(c -> c.getName().equals(name)).findFirst().orElseThrow();
    }

    private boolean tellText(String text) throws Exception {
        if (!same("end", new int[] {0})) {
            return false;
        }
        for (int[] row : Texts.rows(text)) {
            if (!same("feed", row)) {
                return false;
            }
        }
        boolean told = same("end", new int[] {text.length()}) && same("ship", new int[0]);
        log.add("  (the text was: " + text + ")");
        return told && same("fault", new int[] {0}) && same("fault", new int[] {1});
    }

    private boolean same(String name, int[] args) throws Exception {
        Object[] boxed = new Object[args.length];
        Class<?>[] types = new Class<?>[args.length];
        for (int i = 0; i < args.length; i++) {
            boxed[i] = args[i];
            types[i] = int.class;
        }
        long got = ((Number) KeptApart.class.getMethod(name, types).invoke(x, boxed)).longValue();
        long due;
        if (name.equals("feed")) {
            due = m.feed(args);
        } else {
            due = ((Number) Model.class.getDeclaredMethod(name, types).invoke(m, boxed)).longValue();
        }
        log.add(name + java.util.Arrays.toString(args) + " answered " + got + (got == due ? "" : ", due is " + due));
        return got == due;
    }

    private int upTo(int n) {
        return random.nextInt(n + 1);
    }

    /** Mostly as told, now and then beyond. */
    private int argument(String name, int i) {
        if (random.nextInt(25) == 0) {
            return new int[] {-1, -2, 0, 1, 7, 99, 100, 1000, Integer.MAX_VALUE, Integer.MIN_VALUE}[random.nextInt(10)];
        }
        int boxes = m.ship == null ? 3 : m.boxes().size();
        int places = m.ship == null ? 10 : m.places().size();
        int kinds = m.ship == null ? 2 : m.ship.kinds.size();
        String key = name + i;
        switch (key) {
            case "feed0": case "feed1": case "feed2": case "feed3": case "feed4": return random.nextInt();
            case "end0": return upTo(60);
            case "box0": case "why0": case "nearIn0": case "may0": case "puts0": case "lifts0": case "nearTo0": case "told0":
            case "loosest0": case "swaps0": case "swaps1": case "label0": return upTo(Math.max(0, boxes - upTo(1)));
            case "at0": case "between0": case "between1": case "far0": case "far1": case "why1": case "nearIn1": case "puts1":
            case "hang0": return upTo(Math.max(0, places - upTo(1)));
            case "kind0": case "apart0": case "apart1": case "books0": case "shifts0": case "bayOf1": case "clear0":
                return upTo(Math.max(0, kinds - upTo(1)));
            case "level0": case "far2": return 1 + upTo(4);
            case "books1": case "shifts1": return 1 + (random.nextBoolean() ? upTo(98) : upTo(20));
            case "books2": case "restows0": return 1 + upTo(5);
            case "load0": case "effort0": case "shifts2": return 1 + (random.nextInt(3) == 0 ? upTo(900) : upTo(60));
            case "may1": case "near0": case "clear1": return upTo(12) - 1;
            case "count0": return upTo(12);
            case "ways0": case "bayOf0": return 1 + upTo(random.nextInt(4) == 0 ? 7 : 4);
            case "octet0": return upTo(36);
            case "opens0": case "wall0": case "tell0": case "kindsIn0": case "weighs0": case "stack0": return upTo(m.ship == null ? 2 : m.ship.bays);
            case "weighs1": case "stack1": return upTo(m.ship == null ? 2 : m.ship.rows);
            case "opens1": case "weighs2": case "stack2": return upTo(random.nextInt(6) == 0 ? 2 : 1);
            default: return upTo(3);
        }
    }

    // texts

    private String text(boolean big) {
        int bays = 1 + upTo(big ? 5 : 2);
        int rows = 1 + upTo(big ? 3 : 1);
        int hold = upTo(random.nextInt(3) == 0 ? 3 : 2);
        int deck = hold == 0 ? 1 + upTo(2) : upTo(3);
        StringBuilder sb = new StringBuilder();
        sb.append("ship bays " + bays + " rows " + rows + " hold " + hold + " deck " + deck + ";");
        for (int bay = 0; bay + 1 < bays; bay++) {
            if (random.nextInt(3) > 0) {
                sb.append("wall " + bay + (random.nextInt(3) > 0 ? " door;" : ";"));
            }
        }
        if (random.nextInt(3) == 0) {
            sb.append("bears " + (10 + upTo(120)) + " " + (10 + upTo(100)) + ";");
        }
        int levels = upTo(4);
        for (int l = 1; l <= levels; l++) {
            sb.append("level " + l + " across " + (1 + upTo(random.nextBoolean() ? 2 : 8)) + " along " + (1 + upTo(random.nextBoolean() ? 2 : 8)));
            sb.append(random.nextBoolean() ? " walls " + (1 + upTo(random.nextInt(3) == 0 ? 4 : 1)) : "").append(random.nextBoolean() ? " hatch;" : ";");
        }
        int kinds = upTo(random.nextInt(5) == 0 ? 7 : 4);
        for (int k = 0; k < kinds; k++) {
            sb.append(new String[] {"kind;", "kind;", "kind;", "kind deck;", "kind hold;"}[random.nextInt(5)]);
        }
        for (int a = 0; a < kinds && levels > 0; a++) {
            for (int b = a; b < kinds; b++) {
                if (random.nextInt(3) == 0) {
                    sb.append("apart " + (random.nextBoolean() ? a + " " + b : b + " " + a) + " " + (1 + upTo(levels - 1)) + ";");
                }
            }
        }
        // boxes of one weight make high stacks
        boolean even = random.nextInt(3) == 0;
        int boxes = kinds == 0 ? 0 : upTo(random.nextInt(4) == 0 ? 24 : 9);
        for (int b = 0; b < boxes && sb.length() < 870; b++) {
            sb.append("box " + upTo(kinds - 1) + " weight " + (even ? 5 : 1 + upTo(random.nextBoolean() ? 98 : 5)) + (random.nextBoolean() ? " port " + (1 + upTo(4)) + ";" : ";"));
        }
        return sb.length() > 890 ? sb.substring(0, 890) : sb.toString();
    }

    private String broken(String text) {
        StringBuilder sb = new StringBuilder(text);
        int changes = 1 + upTo(2);
        for (int i = 0; i < changes && sb.length() > 0; i++) {
            int at = random.nextInt(sb.length());
            switch (random.nextInt(6)) {
                case 0: sb.setCharAt(at, (char) random.nextInt(256)); break;
                case 1: sb.setCharAt(at, (char) ('0' + random.nextInt(10))); break;
                case 2: sb.deleteCharAt(at); break;
                case 3: sb.setLength(at); break;
                case 4: moveLine(sb); break;
                default: sb.insert(at, new String[] {" ", "\n", ";", "9", "0", "kind;", " deck", "bears 5 5;", "a", "\t"}[random.nextInt(10)]);
            }
        }
        return sb.length() > 890 ? sb.substring(0, 890) : sb.toString();
    }

    private void moveLine(StringBuilder sb) {
        String[] lines = sb.toString().split("(?<=;)");
        String line = lines[random.nextInt(lines.length)];
        lines[random.nextInt(lines.length)] += line;
        sb.setLength(0);
        sb.append(String.join("", lines));
    }
}
