import java.util.ArrayList;
import java.util.List;
import java.util.function.ToLongFunction;

/**
 * What is refused changes nothing: two objects are led the same way, one of them is asked what it refuses, and then
 * both are asked all there is to ask, down to the last act undone. Each stays below 512 calls.
 */
public final class RefusedTest {
    private static final int MIN = Integer.MIN_VALUE;
    private static final int MAX = Integer.MAX_VALUE;
    private static final Checks CHECKS = new Checks();
    /** CODE: tier and 3 times (row and 2 times bay); tier 2 is on deck. */
    private static final String TEXT = "ship bays 3 rows 2 hold 2 deck 1;wall 0;wall 1 door;bears 30 9;level 1 across 9 along 1;level 3 across 9 along 9 hatch;"
        + "kind;kind deck;kind hold;apart 0 2 1;apart 1 1 3;box 0 weight 9;box 0 weight 8 port 2;box 2 weight 5;box 1 weight 4 port 3;box 0 weight 7;box 0 weight 20;";
    /** As many boxes and acts as there can be. */
    private static final String FULL = "ship bays 2 rows 4 hold 3 deck 0;wall 0 door;level 1 across 9 along 9;kind;kind;apart 0 1 1;" + "box 0 weight 5;".repeat(24);

    private final String state;
    private final List<String> refused = new ArrayList<>();

    private RefusedTest(String state) {
        this.state = state;
    }

    public static void main(String[] args) {
        for (String state : new String[] {"new", "faulty", "laden", "full"}) {
            RefusedTest test = new RefusedTest(state);
            if (state.equals("new") || state.equals("faulty")) {
                test.withoutShip();
            } else {
                test.wrongNumbers();
            }
            test.tape();
            CHECKS.due("calls refused when " + state, test.refused.size() > 20 ? 1 : 0, 1);
        }
        RefusedTest laden = new RefusedTest("laden");
        laden.otherwiseRefused();
        laden.onlyAsked();
        new RefusedTest("full").refusedWhenFull();
        new RefusedTest("full").onlyAsked();
        CHECKS.close("RefusedTest");
    }

    private static KeptApart lead(String state) {
        KeptApart x = new KeptApart();
        switch (state) {
            case "faulty":
                Texts.ship(x, "ship bays 1 rows 1 hold 0 deck 0;");
                Texts.feed(x, "ship bays 1 rows");
                break;
            case "laden":
                Texts.ship(x, TEXT);
                x.puts(0, 0);
                x.puts(1, 1);
                x.opens(1, 0);
                x.puts(2, 12);
                x.puts(3, 8);
                x.load(900);
                x.shifts(0, 5, 99);
                x.tell(0);
                Texts.ship(x, TEXT + "wall 0;");
                Texts.feed(x, "ship bays 1 rows");
                break;
            case "full":
                Texts.ship(x, FULL);
                for (int b = 0; b < 24; b++) {
                    x.puts(b, b);
                }
                x.opens(0, 0);
                x.greedy();
                x.shifts(0, 5, 99);
                x.label(23);
                break;
            default:
        }
        return x;
    }

    /** All that can be seen of an object, the acts taken back one by one at the end. */
    private static String look(KeptApart x) {
        StringBuilder sb = new StringBuilder();
        for (int what = 0; what <= 11; what++) {
            sb.append(x.count(what)).append(' ');
        }
        sb.append("fault ").append(x.fault(0)).append(' ').append(x.fault(1)).append(" out ").append(Texts.out(x));
        for (int l = 1; l <= 4; l++) {
            sb.append(" level ").append(x.level(l, 0)).append(x.level(l, 3));
        }
        for (int k = 0; k < 7; k++) {
            sb.append(" kind ").append(x.kind(k)).append(x.apart(0, k)).append(x.apart(k, k));
        }
        sb.append(" told");
        for (int b = 0; b < 24; b++) {
            sb.append(' ').append(x.told(b)).append('/').append(x.box(b, 1)).append('/').append(x.box(b, 2));
        }
        sb.append(" shown ").append(x.shift(0, 0)).append(' ').append(x.shift(0, 1)).append(' ').append(x.shift(1, 0)).append(' ')
            .append(x.shift(1, 1)).append(' ').append(x.shift(2, 1));
        int left = x.count(9);
        do {
            sb.append(" places");
            for (int b = 0; b < 12; b++) {
                sb.append(' ').append(x.box(b, 3));
            }
            sb.append(" walls ").append(x.wall(0)).append(x.wall(1)).append(" lying ").append(x.count(6)).append(" of ").append(x.count(5));
            left = x.undo();
        } while (left >= 0);
        sb.append(" tape ").append(x.ship()).append(' ').append(x.fault(0)).append(' ').append(x.fault(1));
        return sb.toString();
    }

    private void due(String call, ToLongFunction<KeptApart> asked, long want) {
        KeptApart x = lead(state);
        CHECKS.due(call + " when " + state, asked.applyAsLong(x), want);
        CHECKS.due("all else behind " + call + " when " + state, look(x), look(lead(state)));
        refused.add(call);
    }

    private interface Asked {
        long of(KeptApart x, int n);
    }

    private void none(String call, Asked asked, int... numbers) {
        for (int n : numbers) {
            due(call + " of " + n, x -> asked.of(x, n), -2);
        }
    }

    private void tape() {
        for (int n : new int[] {901, MAX, -1, MIN}) {
            due("end(" + n + ")", x -> x.end(n), -1);
        }
        int size = lead(state).count(10);
        due("end() of one more", x -> x.end(size + 1), -1);
        for (int n : new int[] {2, -1, MIN, MAX}) {
            due("fault(" + n + ")", x -> x.fault(n), -1);
        }
        for (int n : new int[] {12, -1, MIN, MAX}) {
            due("count(" + n + ")", x -> x.count(n), -1);
        }
        for (int n : new int[] {36, -1, MIN, MAX}) {
            due("octet(" + n + ")", x -> x.octet(n), -1);
        }
        for (int n : new int[] {4, -1, MIN, MAX}) {
            due("lean(" + n + ")", x -> x.lean(n), KeptApart.NO_SUCH);
        }
    }

    private void withoutShip() {
        due("undo()", KeptApart::undo, -1);
        due("over()", KeptApart::over, -2);
        due("greedy()", KeptApart::greedy, -2);
        due("takes()", KeptApart::takes, -2);
        due("loads()", KeptApart::loads, -2);
        due("span()", KeptApart::span, -2);
        due("clears()", KeptApart::clears, -2);
        due("steady()", KeptApart::steady, -2);
        for (int what = 0; what < 4; what++) {
            int n = what;
            due("lean(" + n + ")", x -> x.lean(n), KeptApart.NO_SUCH);
        }
        int[] few = {-1, 0, 1};
        none("wall", KeptApart::wall, few);
        none("level", (x, n) -> x.level(n, 0), few);
        none("kind", KeptApart::kind, few);
        none("apart", (x, n) -> x.apart(n, n), few);
        none("box", (x, n) -> x.box(n, 3), few);
        none("at", KeptApart::at, few);
        none("between", (x, n) -> x.between(n, n, 0), few);
        none("far", (x, n) -> x.far(n, n, 1), few);
        none("why", (x, n) -> x.why(n, n), few);
        none("nearIn", (x, n) -> x.nearIn(n, n), few);
        none("may", (x, n) -> x.may(n, n), few);
        none("puts", (x, n) -> x.puts(n, n), few);
        none("lifts", KeptApart::lifts, few);
        none("opens", (x, n) -> x.opens(n, 0), few);
        none("books", (x, n) -> x.books(n, 1, 1), few);
        none("near", KeptApart::near, few);
        none("nearTo", KeptApart::nearTo, few);
        none("doors", KeptApart::doors, few);
        none("weighs", (x, n) -> x.weighs(n, n, n), few);
        none("restows", KeptApart::restows, few);
        none("load", KeptApart::load, few);
        none("effort", KeptApart::effort, few);
        none("told", KeptApart::told, few);
        none("shifts", (x, n) -> x.shifts(n, 1, 1), few);
        none("shift", (x, n) -> x.shift(n, 1), few);
        none("ways", KeptApart::ways, few);
        none("bayOf", (x, n) -> x.bayOf(1, n), few);
        none("hang", KeptApart::hang, few);
        none("tell", KeptApart::tell, few);
        none("stack", (x, n) -> x.stack(n, n, n, n), few);
        none("kindsIn", KeptApart::kindsIn, few);
        none("free", KeptApart::free, few);
        none("loosest", KeptApart::loosest, few);
        none("voyage", KeptApart::voyage, few);
        none("clear", (x, n) -> x.clear(n, n), few);
        none("swaps", (x, n) -> x.swaps(n, n + 1), few);
        none("label", KeptApart::label, few);
    }

    private int[] beyond(int n) {
        return new int[] {n, n + 1, -1, -2, MIN, MAX};
    }

    private void wrongNumbers() {
        KeptApart like = lead(state);
        int[] bays = beyond(like.count(0));
        int[] rows = beyond(like.count(1));
        int[] places = beyond(like.free(0) + like.count(6));
        int[] kinds = beyond(like.count(4));
        int[] boxes = beyond(like.count(5));
        int[] two = beyond(2);
        int[] four = beyond(4);
        int[] levels = {0, 2, 4, 5, -1, MIN, MAX};
        int[] limits = {0, 50001, -1, MIN, MAX};
        int[] weights = {0, 100, -1, MIN, MAX};
        int[] ports = {0, 6, -1, MIN, MAX};
        int[] below = {-2, -3, MIN};
        none("wall", KeptApart::wall, bays);
        none("wall", KeptApart::wall, like.count(0) - 1);
        none("level", (x, n) -> x.level(n, 0), levels);
        none("level's what", (x, n) -> x.level(1, n), four);
        none("kind", KeptApart::kind, kinds);
        none("apart", (x, n) -> x.apart(n, 0), kinds);
        none("apart's second", (x, n) -> x.apart(0, n), kinds);
        none("box", (x, n) -> x.box(n, 0), boxes);
        none("box's what", (x, n) -> x.box(0, n), four);
        none("at", KeptApart::at, places);
        none("between", (x, n) -> x.between(n, 0, 0), places);
        none("between's second", (x, n) -> x.between(0, n, 0), places);
        none("between's what", (x, n) -> x.between(0, 0, n), four);
        none("far", (x, n) -> x.far(n, 0, 1), places);
        none("far's second", (x, n) -> x.far(0, n, 1), places);
        none("far's level", (x, n) -> x.far(0, 0, n), levels);
        none("why", (x, n) -> x.why(n, 0), boxes);
        none("why's place", (x, n) -> x.why(0, n), places);
        none("nearIn", (x, n) -> x.nearIn(n, 0), boxes);
        none("nearIn's place", (x, n) -> x.nearIn(0, n), places);
        none("may", (x, n) -> x.may(n, -1), boxes);
        none("may's k", (x, n) -> x.may(0, n), below);
        none("puts", (x, n) -> x.puts(n, 0), boxes);
        none("puts' place", (x, n) -> x.puts(0, n), places);
        none("lifts", KeptApart::lifts, boxes);
        none("opens", (x, n) -> x.opens(n, 1), bays);
        none("opens, the last bay", (x, n) -> x.opens(n, 1), like.count(0) - 1);
        none("opens' state", (x, n) -> x.opens(like.count(0) - 2, n), two);
        none("books", (x, n) -> x.books(n, 1, 1), kinds);
        none("books' weight", (x, n) -> x.books(0, n, 1), weights);
        none("books' port", (x, n) -> x.books(0, 1, n), ports);
        none("near", KeptApart::near, below);
        none("nearTo", KeptApart::nearTo, boxes);
        none("doors", KeptApart::doors, two);
        none("weighs", (x, n) -> x.weighs(n, 0, 0), bays);
        none("weighs' row", (x, n) -> x.weighs(0, n, 0), rows);
        none("weighs' deck", (x, n) -> x.weighs(0, 0, n), two);
        none("restows", KeptApart::restows, ports);
        none("load", KeptApart::load, limits);
        none("effort", KeptApart::effort, limits);
        none("told", KeptApart::told, boxes);
        none("shifts", (x, n) -> x.shifts(n, 1, 1), kinds);
        none("shifts' weight", (x, n) -> x.shifts(0, n, 1), weights);
        none("shifts' puts", (x, n) -> x.shifts(0, 1, n), limits);
        none("shift", (x, n) -> x.shift(n, 1), beyond(3));
        none("shift's what", (x, n) -> x.shift(0, n), two);
        none("ways", KeptApart::ways, 0, 9, -1, MIN, MAX);
        none("bayOf", (x, n) -> x.bayOf(n, 0), 0, 9, -1, MIN, MAX);
        none("bayOf's kind", (x, n) -> x.bayOf(1, n), kinds);
        none("hang", KeptApart::hang, places);
        none("tell", KeptApart::tell, bays);
        none("stack", (x, n) -> x.stack(n, 0, 0, 0), bays);
        none("stack's row", (x, n) -> x.stack(0, n, 0, 0), rows);
        none("stack's deck", (x, n) -> x.stack(0, 0, n, 0), two);
        none("stack's i", (x, n) -> x.stack(0, 0, 0, n), -1, -2, MIN);
        none("kindsIn", KeptApart::kindsIn, bays);
        none("free", KeptApart::free, two);
        none("loosest", KeptApart::loosest, boxes);
        none("voyage", KeptApart::voyage, two);
        none("clear", (x, n) -> x.clear(n, -1), kinds);
        none("clear's k", (x, n) -> x.clear(0, n), below);
        none("swaps", (x, n) -> x.swaps(n, 0), boxes);
        none("swaps' other", (x, n) -> x.swaps(0, n), boxes);
        none("swaps of one and the same", (x, n) -> x.swaps(n, n), 0, 1, 4);
        none("label", KeptApart::label, boxes);
    }

    /** Laden: 0 in 0 with 1 on it, 2 in 12, 3 on deck in 8, 4 and 5 nowhere; the door is shut. */
    private void otherwiseRefused() {
        due("puts() where a box lies", x -> x.puts(4, 12), 1);
        due("puts() where it lies", x -> x.puts(2, 12), 1);
        due("puts() hanging", x -> x.puts(4, 10), 2);
        due("puts() on itself", x -> x.puts(2, 13), 2);
        due("puts() of a kind for the hold on deck", x -> x.puts(2, 14), 3);
        due("puts() too heavy for the deck", x -> x.puts(5, 2), 4);
        due("puts() on a lighter one", x -> x.puts(4, 13), 5);
        due("puts() near", x -> x.puts(4, 15), 6);
        due("puts() of one that can't be lifted", x -> x.puts(0, 3), 7);
        due("lifts() of one that lies nowhere", x -> x.lifts(4), -1);
        due("lifts() of one that can't be", x -> x.lifts(0), -5);
        due("opens() of the same state", x -> x.opens(1, 0), 0);
        due("opens() of a wall without a door", x -> x.opens(0, 0), -2);
        due("load() too long", x -> x.load(1), -3);
        due("effort() too long", x -> x.effort(1), -3);
        due("swaps() with one that lies nowhere", x -> x.swaps(4, 2), -5);
        due("swaps() with one that can't be lifted", x -> x.swaps(0, 2), -5);
        due("swaps(): neither may, the first one on deck", x -> x.swaps(2, 3), 3);
        due("swaps(): neither may, the first one in the hold", x -> x.swaps(3, 2), 3);
        due("swaps(): the first one may not", x -> x.swaps(2, 1), 6);
        due("swaps(): the other one may not", x -> x.swaps(1, 2), 16);
        due("may() not so many", x -> x.may(2, 99), -1);
        due("near() not so many", x -> x.near(0), -1);
        due("hang() of nobody", x -> x.hang(5), -1);
        due("stack() not so many", x -> x.stack(0, 0, 0, 2), -1);
        due("clear() not so many", x -> x.clear(0, 99), -1);
    }

    private void refusedWhenFull() {
        due("books() of a 25th", x -> x.books(0, 1, 1), -5);
        due("loads() of none", KeptApart::loads, 0);
        due("takes() of none", KeptApart::takes, 0);
        due("puts() of the last one", x -> x.puts(23, 0), 1);
        due("puts() of one that can't be lifted", x -> x.puts(0, 0), 7);
        due("lifts() of one that can't be", x -> x.lifts(21), -5);
        due("opens() of the same state", x -> x.opens(0, 0), 0);
        due("swaps() with one that can't be lifted", x -> x.swaps(2, 3), -5);
        due("greedy() of none, told as it was", KeptApart::greedy, 0);
        due("load() of none, told as it was", x -> x.load(1), 0);
    }

    /** Calls that only ask. */
    private void onlyAsked() {
        KeptApart like = lead(state);
        due("doors(0)", x -> x.doors(0), like.doors(0));
        due("doors(1)", x -> x.doors(1), like.doors(1));
        due("steady()", KeptApart::steady, like.steady());
        due("voyage(0)", x -> x.voyage(0), like.voyage(0));
        due("voyage(1)", x -> x.voyage(1), like.voyage(1));
        due("effort(900)", x -> x.effort(900), like.effort(900));
        due("ways(8)", x -> x.ways(8), like.ways(8));
        due("span()", KeptApart::span, like.span());
        due("bayOf(8, 1)", x -> x.bayOf(8, 1), like.bayOf(8, 1));
        due("over()", KeptApart::over, like.over());
        due("restows(1)", x -> x.restows(1), like.restows(1));
        due("lean(0)", x -> x.lean(0), like.lean(0));
        due("hang(0)", x -> x.hang(0), like.hang(0));
        due("loosest(4)", x -> x.loosest(4), like.loosest(4));
        due("may(4, -1)", x -> x.may(4, -1), like.may(4, -1));
        due("why(4, 6)", x -> x.why(4, 6), like.why(4, 6));
        due("nearIn(4, 6)", x -> x.nearIn(4, 6), like.nearIn(4, 6));
        due("clear(0, -1)", x -> x.clear(0, -1), like.clear(0, -1));
        due("free(1)", x -> x.free(1), like.free(1));
        due("kindsIn(0)", x -> x.kindsIn(0), like.kindsIn(0));
        due("near(-1)", x -> x.near(-1), like.near(-1));
    }
}
