import java.util.function.IntUnaryOperator;

/** Term III and the promises about weights, ports, loading, late boxes, and bays for kinds. */
final class PlanSentences {
    private static final int MIN = Integer.MIN_VALUE;
    private static final int MAX = Integer.MAX_VALUE;
    private static final String ONE = "ship bays 1 rows 1 hold 1 deck 0;";
    /** Two bays of two rows, one tier: bay 0 has 0, 1, bay 1 2, 3. */
    private static final String FLAT = "ship bays 2 rows 2 hold 1 deck 0;";
    /** One stack of three in the hold, one of three on deck. */
    private static final String TOWER = "ship bays 1 rows 1 hold 3 deck 3;";
    private static final String ALL_APART = "level 1 across 9 along 9;kind;kind;apart 0 1 1;";

    private final Sentences s;
    private final KeptApart nowhere = new KeptApart();

    PlanSentences(Sentences s) {
        this.s = s;
    }

    void all() {
        loading();
        loadingLimits();
        greedyTerm();
        shiftsTerm();
        shiftsOrder();
        shiftsLimits();
        kindsBays();
        lean();
        over();
        restows();
        load();
        effort();
        greedy();
        told();
        takes();
        loads();
        shifts();
        shift();
        ways();
        span();
        bayOf();
        voyage();
        steady();
    }

    private void none(String call, IntUnaryOperator asked, int... arguments) {
        for (int n : arguments) {
            s.due(call + " of " + n, asked.applyAsInt(n), -2);
        }
    }

    private void toldAre(KeptApart x, int... places) {
        for (int b = 0; b < places.length; b++) {
            s.due("told(" + b + ")", x.told(b), places[b]);
        }
    }

    private void loading() {
        s.says("III", "LOADING: BOXES that lie nowhere, by numbers: each comes to a PLACE where it may (WHY 0), those ahead lying there, or is REJECTED;");
        KeptApart x = s.ship("ship bays 1 rows 1 hold 3 deck 0;kind;box 0 weight 3;box 0 weight 2;box 0 weight 1;");
        s.due("one on the other", x.load(9), 0);
        toldAre(x, 0, 1, 2);
        x = s.ship("ship bays 1 rows 1 hold 3 deck 0;kind;box 0 weight 1;box 0 weight 2;box 0 weight 3;");
        s.due("none on a lighter one", x.load(9), 2);
        toldAre(x, 0, -1, -1);
        x.puts(2, 0);
        s.due("the heaviest one lies", x.load(9), 1);
        toldAre(x, 1, -1, -6);
        s.due("those that are to come do not lie there yet", x.count(6), 1);
        s.due("no BOXES", s.ship(ONE).load(1), 0);

        s.says("III", "of all such rows those with the fewest REJECTED,");
        // box 0 is near to each other one: it is rejected for their sake
        x = s.ship(FLAT + ALL_APART + "box 0 weight 1;box 1 weight 1;box 1 weight 1;");
        s.due("load(99)", x.load(99), 1);
        toldAre(x, -1, 0, 1);
        x = s.ship("ship bays 1 rows 1 hold 1 deck 1;kind;kind hold;box 0 weight 1;box 1 weight 1;");
        s.due("box 0 makes way", x.load(99), 0);
        toldAre(x, 1, 0);
        x = s.ship("ship bays 1 rows 1 hold 1 deck 0;kind deck;" + "box 0 weight 1;".repeat(24));
        s.due("all of 24 REJECTED", x.load(1), 24);
        s.due("told(23)", x.told(23), -1);
        x = s.ship("ship bays 6 rows 4 hold 1 deck 0;kind;" + "box 0 weight 1;".repeat(24));
        s.due("none of 24 REJECTED", x.load(24), 0);
        s.due("told(23)", x.told(23), 23);

        s.says("III", "of these that which is first (BOX by BOX the least CODE, REJECTED behind all PLACES).");
        x = s.ship(ONE + "kind;box 0 weight 1;box 0 weight 1;");
        s.due("one of two", x.load(9), 1);
        toldAre(x, 0, -1);
        x = s.ship(FLAT + "level 1 across 9 along 1;kind;kind;apart 0 1 1;box 0 weight 1;box 1 weight 1;box 0 weight 1;box 1 weight 1;");
        s.due("all four", x.load(99), 0);
        toldAre(x, 0, 2, 1, 3);
    }

    private void loadingLimits() {
        s.says("III", "TOO LONG, if by going through them (BOX by BOX, PLACES by CODE, then REJECTED;");
        // 0 to 0, 1, 2, 3 with two rejected behind each; then 0 rejected, 1 to 0, 2 to 1
        KeptApart x = s.ship(FLAT + ALL_APART + "box 0 weight 1;box 1 weight 1;box 1 weight 1;");
        s.due("effort(6)", x.effort(6), 6);
        s.due("effort(5)", x.effort(5), -3);
        // 0 to 0 with 1 rejected; then 0 to 1, 1 to 0
        x = s.ship("ship bays 1 rows 1 hold 1 deck 1;kind;kind hold;box 0 weight 1;box 1 weight 1;");
        s.due("effort(3)", x.effort(3), 3);
        s.due("effort(2)", x.effort(2), -3);
        s.says("III", "a row that has as many REJECTED as the best one so far, or more, is left: nothing more is PUT for it)");
        // the first row rejects none: no other is gone on with, within any BOX
        x = s.ship("ship bays 6 rows 4 hold 1 deck 0;kind;" + "box 0 weight 1;".repeat(24));
        s.due("24 and no more", x.effort(50000), 24);
        // 0 to 0, 1 and 2 rejected (2); 0 to 1 likewise; 0 rejected: 1 to 0 (2 rejected would be as many), 1 to 1; both rejected are as many
        x = s.ship("ship bays 2 rows 1 hold 1 deck 0;level 1 across 9 along 9;kind;apart 0 0 1;" + "box 0 weight 1;".repeat(3));
        s.due("four", x.effort(50000), 4);
        s.says("III", "more than so many (1 .. 50000) PUTS (each BOX that comes to a PLACE) are done.");
        s.due("as many", x.load(4), 2);
        s.due("one less", x.load(3), -3);
        s.due("the least that is allowed", s.ship(ONE + "kind;box 0 weight 1;").load(1), 0);
        s.due("the most that is allowed", x.load(50000), 2);
        s.due("one beyond", x.load(50001), -2);
        s.due("none", x.load(0), -2);
        KeptApart y = s.ship("ship bays 6 rows 4 hold 3 deck 3;bears 50 50;kind;box 0 weight 1;box 0 weight 1;box 0 weight 1;" + "box 0 weight 99;".repeat(9));
        s.due("more than 50000", y.load(50000), -3);
        s.due("more than 50000", y.effort(50000), -3);
        s.due("nothing lies", y.count(6), 0);
        s.due("all PLACES are free", y.free(0), 144);
    }

    private void greedyTerm() {
        s.says("III", "GREEDY: each to the least PLACE where it may, else REJECTED.");
        KeptApart x = s.ship("ship bays 1 rows 1 hold 1 deck 1;kind;kind hold;box 0 weight 1;box 1 weight 1;box 0 weight 1;");
        s.due("greedy()", x.greedy(), 1);
        toldAre(x, 0, -1, 1);
        x = s.ship("ship bays 1 rows 1 hold 3 deck 0;kind;box 0 weight 3;box 0 weight 2;box 0 weight 3;box 0 weight 1;");
        s.due("those ahead lie there", x.greedy(), 1);
        toldAre(x, 0, 1, -1, 2);
    }

    private void shiftsTerm() {
        s.says("III", "A LATE BOX (a KIND, a weight): SHIFTS: the fewest BOXES (0 .. 2, unlike ones)");
        String bays = "ship bays 2 rows 4 hold 1 deck 0;level 1 across 9 along 1;kind;kind;apart 0 1 1;" + "box 0 weight 1;".repeat(4);
        KeptApart x = s.ship(bays);
        s.due("none", x.shifts(1, 1, 1), 0);
        x.puts(0, 0);
        s.due("none: the other BAY", x.shifts(1, 1, 1), 0);
        s.due("the late one's PLACE", x.shift(2, 1), 4);
        x.puts(2, 4);
        s.due("one", x.shifts(1, 1, 50), 1);
        x.puts(1, 1);
        x.puts(3, 5);
        s.due("two", x.shifts(1, 1, 50), 2);
        KeptApart y = s.ship("ship bays 2 rows 4 hold 2 deck 0;level 1 across 9 along 1;kind;kind;apart 0 1 1;" + "box 0 weight 1;".repeat(6));
        int[] places = {0, 2, 4, 8, 10, 12};
        for (int b = 0; b < 6; b++) {
            y.puts(b, places[b]);
        }
        s.due("three would do", y.shifts(1, 1, 50000), -1);
        y = s.ship("ship bays 2 rows 1 hold 1 deck 0;" + ALL_APART + "box 0 weight 1;");
        y.puts(0, 0);
        s.due("one BOX alone is no two: two puts, the first one again", y.shifts(1, 1, 2), -1);
        s.due("one less", y.shifts(1, 1, 1), -3);

        s.says("III", "that are lifted (those that can be), one behind the other,");
        // a heavy late one needs a bottom: 0 lies on 1
        y = s.ship("ship bays 1 rows 3 hold 2 deck 0;bears 9 9;kind;box 0 weight 2;box 0 weight 3;box 0 weight 6;box 0 weight 7;");
        y.puts(1, 0);
        y.puts(0, 1);
        y.puts(2, 2);
        y.puts(3, 4);
        s.due("the upper one, then the lower one", y.shifts(0, 9, 50), 2);
        s.due("first the upper one", y.shift(0, 0), 0);
        s.due("its PLACE", y.shift(0, 1), 5);
        s.due("then the lower one", y.shift(1, 0), 1);
        s.due("its PLACE", y.shift(1, 1), 3);
        s.due("the late one's", y.shift(2, 1), 0);

        s.says("III", "each put elsewhere at once (a PLACE where it may), so that then the late one may come to a PLACE;");
        y = s.ship("ship bays 2 rows 1 hold 1 deck 0;kind;kind;box 0 weight 1;box 1 weight 1;");
        y.puts(0, 0);
        y.puts(1, 1);
        s.due("a full ship: nobody can be put elsewhere", y.shifts(0, 1, 1), -1);
        y.lifts(1);
        s.due("a free PLACE", y.shifts(0, 1, 1), 0);
        s.due("it is the late one's", y.shift(2, 1), 1);
        y = s.ship("ship bays 1 rows 1 hold 1 deck 1;kind;kind hold;kind deck;box 0 weight 1;box 1 weight 1;");
        y.puts(0, 0);
        s.due("a KIND for the hold: the other one goes on deck", y.shifts(1, 1, 1), 1);
        y.lifts(0);
        y.puts(1, 0);
        s.due("that one may not go on deck", y.shifts(1, 1, 1), -1);
        s.due("a KIND for the deck", y.shifts(2, 1, 1), 0);
    }

    private void shiftsOrder() {
        s.says("III", "of like ones the first by BOX and PLACE (CODE) of the first shift, then of the second one, then the PLACE of the late one.");
        KeptApart x = s.ship("ship bays 3 rows 1 hold 1 deck 0;level 1 across 9 along 2;kind;kind;apart 0 1 1;box 0 weight 1;");
        x.puts(0, 1);
        s.due("one", x.shifts(1, 1, 9), 1);
        s.due("the least PLACE", x.shift(0, 1), 0);
        s.due("the late one's", x.shift(2, 1), 2);
        x = s.ship("ship bays 2 rows 2 hold 1 deck 0;level 1 across 9 along 1;kind;kind;apart 0 1 1;box 0 weight 1;box 0 weight 1;");
        x.puts(0, 2);
        x.puts(1, 0);
        s.due("either one", x.shifts(1, 1, 9), 1);
        s.due("the lesser BOX", x.shift(0, 0), 0);
        s.due("its PLACE", x.shift(0, 1), 1);
        s.due("the late one's least PLACE", x.shift(2, 1), 2);
        x = s.ship("ship bays 2 rows 4 hold 1 deck 0;level 1 across 9 along 1;kind;kind;apart 0 1 1;" + "box 0 weight 1;".repeat(4));
        int[] places = {0, 1, 4, 5};
        for (int b = 0; b < 4; b++) {
            x.puts(b, places[b]);
        }
        s.due("two", x.shifts(1, 1, 99), 2);
        int[][] due = {{0, 6}, {1, 7}};
        for (int i = 0; i < 2; i++) {
            for (int what = 0; what < 2; what++) {
                s.due("shift(" + i + ", " + what + ")", x.shift(i, what), due[i][what]);
            }
        }
        s.due("shift(2, 1)", x.shift(2, 1), 0);

        s.says("III", "They are gone through in that order, those of one BOX ahead of those of two;");
        // one: 4 by 4; two: 0 to 2 and 3 with 3 by 4 each, then 0 to 6 and 1 to 0, 2, 3, 7
        s.due("16 and 13 and 13 and 5", x.shifts(1, 1, 47), 2);
        s.due("one less", x.shifts(1, 1, 46), -3);
    }

    private void shiftsLimits() {
        s.says("III", "TOO LONG, if more than so many (1 .. 50000) PUTS (each BOX that is put elsewhere) are done.");
        KeptApart x = s.ship(FLAT + "level 1 across 9 along 1;kind;kind;apart 0 1 1;box 0 weight 1;box 0 weight 1;");
        s.due("no PUTS at all", x.shifts(1, 1, 1), 0);
        x.puts(0, 0);
        x.puts(1, 2);
        // 0 to 1 is of no use, 0 to 3 is
        s.due("as many", x.shifts(1, 1, 2), 1);
        s.due("one less", x.shifts(1, 1, 1), -3);
        s.due("the most that is allowed", x.shifts(1, 1, 50000), 1);
        s.due("one beyond", x.shifts(1, 1, 50001), -2);
        s.due("none", x.shifts(1, 1, 0), -2);
        x = s.ship("ship bays 6 rows 4 hold 3 deck 3;" + ALL_APART + "box 0 weight 9;".repeat(24));
        x.loads();
        s.due("more than 50000", x.shifts(1, 1, 50000), -3);
        s.due("all lie where they lay", x.box(23, 3), 23);
    }

    private void kindsBays() {
        s.says("III", "KINDS' BAYS: each KIND has a BAY 0 .. n less 1 so that each two unlike KINDS that are told apart are along (of that LEVEL) BAYS apart or more.");
        for (int along = 1; along <= 9; along++) {
            KeptApart x = s.ship(FLAT + "level 3 across 1 along " + along + ";kind;kind;apart 1 0 3;");
            for (int n = 1; n <= 8; n++) {
                int apart = Math.max(0, n - along);
                s.due("two KINDS " + along + " apart in " + n, x.ways(n), (long) apart * (apart + 1));
            }
        }
        KeptApart x = s.ship(FLAT + "level 1 across 1 along 9;kind;kind;apart 0 0 1;apart 1 1 1;");
        s.due("one KIND is not apart from itself", x.ways(1), 1);
        s.due("KINDS that are not told apart", x.ways(8), 64);
        s.due("across, walls, hatch do not count", s.ship(FLAT + "level 1 across 9 along 1 walls 5 hatch;kind;kind;apart 0 1 1;").ways(2), 2);
    }

    private void lean() {
        s.says("III", "LEAN: all BOXES that lie: weight times (twice the BAY less (BAYS less 1)) together;");
        KeptApart x = s.ship("ship bays 6 rows 4 hold 3 deck 3;kind;" + "box 0 weight 99;".repeat(24));
        for (int bay = 0; bay < 6; bay++) {
            x.puts(0, 24 * bay);
            s.due("99 in BAY " + bay, x.lean(0), 99 * (2 * bay - 5));
        }
        s.says("III", "likewise of ROWS;");
        for (int row = 0; row < 4; row++) {
            x.puts(0, 6 * row);
            s.due("99 in ROW " + row, x.lean(1), 99 * (2 * row - 3));
        }
        s.says("III", "HEIGHT: weight times TIER together.");
        s.due("99 in TIER 0", x.lean(2), 0);
        x.puts(0, 3);
        s.due("99 in TIER 3", x.lean(2), 297);
        x.puts(1, 4);
        x.puts(2, 5);
        s.due("99 in TIER 3, 4, 5", x.lean(2), 99 * 12);

        s.says("26", "What 0: LEAN by BAYS, 1: by ROWS, 2: HEIGHT, 3: weight of all that lie.");
        x.clears();
        for (int what = 0; what < 4; what++) {
            s.due("nobody lies: lean(" + what + ")", x.lean(what), 0);
        }
        for (int b = 0; b < 24; b++) {
            x.puts(b, 120 + b);
        }
        s.due("all in the last BAY", x.lean(0), 24 * 99 * 5);
        s.due("all ROWS alike", x.lean(1), 0);
        s.due("all TIERS", x.lean(2), 4 * 99 * 15);
        s.due("all that lie", x.lean(3), 24 * 99);
        s.due("one BAY, one ROW", s.ship(ONE).lean(0), 0);
        s.says("26", "NO_SUCH: another what, no SHIP.");
        for (int what : new int[] {4, -1, MIN, MAX}) {
            s.due("lean(" + what + ")", x.lean(what), Long.MIN_VALUE);
        }
        for (int what = -1; what <= 4; what++) {
            s.due("lean(" + what + ") of no SHIP", nowhere.lean(what), Long.MIN_VALUE);
        }
    }

    private void over() {
        s.says("III", "OVER: a BOX lies over another one, if it is in the same STACK above it, and that one's port is less.");
        KeptApart x = s.ship(TOWER + "kind;box 0 weight 9 port 4;box 0 weight 9 port 5;box 0 weight 9 port 5;box 0 weight 9 port 1;box 0 weight 9 port 4;");
        x.puts(0, 0);
        x.puts(1, 1);
        s.due("5 above 4", x.over(), 1);
        x.puts(2, 2);
        s.due("5 above 5 and 4", x.over(), 2);
        x.puts(3, 3);
        s.due("1 above the hatch", x.over(), 2);
        x.clears();
        x.puts(1, 0);
        x.puts(0, 1);
        s.due("4 above 5", x.over(), 0);
        x.puts(3, 2);
        s.due("1 above 4 and 5", x.over(), 0);
        x.clears();
        x.puts(3, 0);
        x.puts(0, 1);
        s.due("the first BOX above, 4 above 1", x.over(), 1);
        s.says("27", "How many twos of BOXES are such that one lies OVER the other one.");
        KeptApart full = s.ship("ship bays 1 rows 4 hold 3 deck 3;kind;" + "box 0 weight 1;box 0 weight 1 port 2;box 0 weight 1 port 3;".repeat(8));
        s.due("nobody lies", full.over(), 0);
        full.loads();
        s.due("three in each of eight STACKS", full.over(), 24);
        s.due("no BOXES", s.ship(ONE).over(), 0);
        s.says("27", "-2: there is no SHIP.");
        s.due("over()", nowhere.over(), -2);
    }

    private void restows() {
        s.says("28", "How many BOXES of other ports lie in STACKS above some BOX of a port (1 .. 5).");
        KeptApart x = s.ship(TOWER + "kind;box 0 weight 9 port 5;box 0 weight 9 port 1;box 0 weight 9 port 5;box 0 weight 9 port 3;");
        s.due("nobody lies", x.restows(5), 0);
        x.puts(0, 0);
        x.puts(1, 1);
        x.puts(2, 2);
        x.puts(3, 3);
        s.due("of port 5: 1 above it, 5 is of it", x.restows(5), 1);
        s.due("of port 1: 5 above it, not 3 above the hatch", x.restows(1), 1);
        s.due("of port 3: nobody above it", x.restows(3), 0);
        s.due("of port 2: there is none", x.restows(2), 0);
        x.clears();
        x.puts(3, 0);
        x.puts(0, 1);
        s.due("the first BOX above port 3", x.restows(3), 1);
        KeptApart full = s.ship("ship bays 1 rows 4 hold 3 deck 3;kind;" + "box 0 weight 1;box 0 weight 1;box 0 weight 1 port 5;".repeat(8));
        full.loads();
        s.due("one, though above two, in each of eight", full.restows(1), 8);
        s.due("nobody above port 5", full.restows(5), 0);
        s.says("28", "-2.");
        none("restows", x::restows, 0, 6, -1, MIN, MAX);
        none("restows of no SHIP", nowhere::restows, 1, 5, 0);
    }

    private void load() {
        s.says("29", "LOADING: how many are REJECTED; it is TOLD then.");
        KeptApart x = s.ship(ONE + "kind;box 0 weight 1;box 0 weight 1;");
        s.due("load(1)", x.load(1), 1);
        toldAre(x, 0, -1);
        s.due("nothing lies", x.count(6), 0);
        s.due("no act", x.count(9), 0);
        x.puts(1, 0);
        s.due("one that lies is not of it", x.load(1), 1);
        toldAre(x, -1, -6);
        x.undo();
        s.says("29", "-3 (what was TOLD stays);");
        KeptApart y = s.ship(FLAT + "kind;box 0 weight 1;box 0 weight 1;");
        s.due("load(1) ahead of any", y.load(1), -3);
        toldAre(y, -6, -6);
        s.due("nothing is TOLD", y.takes(), -6);
        s.due("load(2)", y.load(2), 0);
        y.books(0, 1, 1);
        s.due("load(2) of three", y.load(2), -3);
        toldAre(y, 0, 1, -6);
        s.due("nothing lies", y.count(6), 0);
        s.says("29", "-2.");
        none("load", y::load, 0, 50001, -1, MIN, MAX);
        toldAre(y, 0, 1, -6);
        none("load of no SHIP", nowhere::load, 1, 50000, 0);
    }

    private void effort() {
        s.says("30", "How many PUTS LOADING does in all.");
        KeptApart x = s.ship(FLAT + "kind;box 0 weight 1;box 0 weight 1;");
        s.due("effort(2)", x.effort(2), 2);
        s.due("effort(50000)", x.effort(50000), 2);
        s.due("it is not TOLD", x.told(0), -6);
        s.due("nothing lies", x.count(6), 0);
        s.due("no BOXES: no PUTS", s.ship(ONE).effort(1), 0);
        s.due("no PLACE: no PUTS", s.ship(ONE + "kind deck;box 0 weight 1;").effort(1), 0);
        x.loads();
        s.due("all lie: no PUTS", x.effort(1), 0);
        x.undo();
        s.says("30", "-3;");
        s.due("effort(1)", x.effort(1), -3);
        s.due("nothing lies", x.count(6), 0);
        s.says("30", "-2.");
        none("effort", x::effort, 0, 50001, -1, MIN, MAX);
        none("effort of no SHIP", nowhere::effort, 1, 50000, 0);
    }

    private void greedy() {
        s.says("31", "GREEDY: how many would be REJECTED; it is TOLD then.");
        KeptApart x = s.ship(ONE + "kind;" + "box 0 weight 1;".repeat(24));
        s.due("all but one", x.greedy(), 23);
        toldAre(x, 0, -1);
        s.due("the last one", x.told(23), -1);
        s.due("nothing lies", x.count(6), 0);
        s.due("no act", x.count(9), 0);
        x.puts(5, 0);
        s.due("a full ship", x.greedy(), 23);
        s.due("told(5), not of it", x.told(5), -6);
        KeptApart y = s.ship(ONE);
        s.due("no BOXES", y.greedy(), 0);
        s.due("it is TOLD", y.takes(), 0);
        s.says("31", "-2: there is no SHIP.");
        s.due("greedy()", nowhere.greedy(), -2);
    }

    private void told() {
        s.says("32", "Of what load(), greedy() TOLD last: the PLACE (CODE) of a BOX.");
        KeptApart x = s.ship("ship bays 1 rows 1 hold 1 deck 1;kind;kind hold;" + "box 0 weight 1;box 1 weight 1;");
        x.load(9);
        toldAre(x, 1, 0);
        x.greedy();
        toldAre(x, 0, -1);
        x.load(9);
        toldAre(x, 1, 0);
        x.loads();
        x.effort(9);
        s.due("loads() and effort() TELL nothing", x.told(0), 1);
        x.clears();
        x.undo();
        x.undo();
        s.due("nor do acts", x.told(0), 1);
        KeptApart last = s.ship("ship bays 6 rows 4 hold 3 deck 3;kind;" + "box 0 weight 1;".repeat(24));
        last.greedy();
        s.due("the first one", last.told(0), 0);
        s.due("the last one", last.told(23), 23);
        s.says("32", "NONE: REJECTED;");
        x.greedy();
        s.due("told(1)", x.told(1), -1);
        s.says("32", "-6: nothing is TOLD, the BOX was not of it;");
        KeptApart y = s.ship(FLAT + "kind;box 0 weight 1;");
        s.due("nothing is TOLD", y.told(0), -6);
        y.puts(0, 3);
        y.greedy();
        s.due("it lay", y.told(0), -6);
        y.books(0, 1, 1);
        s.due("it was booked later", y.told(1), -6);
        y.lifts(0);
        s.due("it was lifted later", y.told(0), -6);
        y.load(9);
        toldAre(y, 0, 1);
        s.says("32", "-2.");
        none("told", y::told, 2, 24, -1, MIN, MAX);
        none("told of nothing TOLD", s.ship(ONE + "kind;box 0 weight 1;")::told, 1, -1);
        none("told of no SHIP", nowhere::told, 0, -1);
    }

    private void takes() {
        s.says("33", "What is TOLD is done, BOX by BOX, each that may still (WHY 0) and lies nowhere: how many are put.");
        KeptApart x = s.ship("ship bays 1 rows 2 hold 2 deck 0;kind;box 0 weight 3;box 0 weight 2;box 0 weight 2;box 0 weight 9;");
        s.due("greedy()", x.greedy(), 1);
        toldAre(x, 0, 1, 2, -1);
        s.due("all but the REJECTED one", x.takes(), 3);
        s.due("box(3, 3)", x.box(3, 3), -1);
        s.due("all lie: none", x.takes(), 0);
        x.clears();
        x.puts(1, 2);
        s.due("one lies elsewhere, one's PLACE is taken", x.takes(), 1);
        s.due("box(1, 3)", x.box(1, 3), 2);
        s.due("box(2, 3)", x.box(2, 3), -1);
        x.clears();
        x.puts(3, 0);
        s.due("one's PLACE is taken; the one above it may still", x.takes(), 2);
        s.due("box(0, 3)", x.box(0, 3), -1);
        s.due("box(1, 3)", x.box(1, 3), 1);
        x.clears();
        x.puts(0, 2);
        s.due("one would hang, one's PLACE is taken: none", x.takes(), 0);
        s.due("box(1, 3)", x.box(1, 3), -1);
        KeptApart full = s.ship("ship bays 6 rows 4 hold 1 deck 0;kind;" + "box 0 weight 1;".repeat(24));
        full.greedy();
        s.due("all of 24", full.takes(), 24);
        s.due("one act", full.undo(), 0);
        s.due("count(6)", full.count(6), 0);
        s.due("TOLD still", full.takes(), 24);
        s.says("33", "-6: nothing is TOLD;");
        KeptApart y = s.ship(FLAT + "kind;box 0 weight 1;");
        s.due("takes()", y.takes(), -6);
        y.loads();
        y.effort(9);
        s.due("behind loads() and effort()", y.takes(), -6);
        s.says("33", "-2: there is no SHIP.");
        s.due("takes()", nowhere.takes(), -2);
    }

    private void loads() {
        s.says("34", "GREEDY is done: how many are put.");
        KeptApart x = s.ship("ship bays 6 rows 4 hold 1 deck 0;kind;" + "box 0 weight 1;".repeat(24));
        s.due("all of 24", x.loads(), 24);
        s.due("at(23)", x.at(23), 23);
        s.due("again: none", x.loads(), 0);
        s.due("one act", x.count(9), 1);
        x.lifts(7);
        x.lifts(3);
        s.due("two by numbers", x.loads(), 2);
        s.due("at(3)", x.at(3), 3);
        s.due("at(7)", x.at(7), 7);
        s.due("no BOXES", s.ship(ONE).loads(), 0);
        s.due("no PLACE", s.ship(ONE + "kind deck;box 0 weight 1;").loads(), 0);
        x.lifts(0);
        int acts = x.count(9);
        s.due("one", x.loads(), 1);
        s.due("an act more", x.count(9), acts + 1);
        s.says("34", "-2: there is no SHIP.");
        s.due("loads()", nowhere.loads(), -2);
    }

    private void shifts() {
        s.says("35", "SHIFTS for a late BOX: how many; they are SHOWN then.");
        String text = FLAT + "level 1 across 9 along 1;level 2 across 9 along 9;kind;kind;apart 0 1 1;kind;apart 0 2 2;" + "box 0 weight 1;".repeat(24);
        KeptApart x = s.ship(text);
        s.due("an empty ship, 24 BOXES", x.shifts(1, 99, 1), 0);
        s.due("SHOWN", x.shift(2, 1), 0);
        x.puts(23, 0);
        x.puts(22, 2);
        s.due("one", x.shifts(1, 1, 9), 1);
        s.due("SHOWN", x.shift(0, 0), 22);
        s.due("no BOX more", x.count(5), 24);
        s.due("nothing is put", x.box(22, 3), 2);
        s.due("no act", x.count(9), 2);
        s.says("35", "-3 (what was SHOWN stays);");
        s.due("too few PUTS", x.shifts(2, 1, 3), -3);
        s.due("SHOWN still", x.shift(0, 0), 22);
        s.due("SHOWN still", x.shift(0, 1), 1);
        s.due("SHOWN still", x.shift(2, 1), 2);
        s.due("nothing is put", x.box(22, 3), 2);
        s.says("35", "-2 (KIND, weight as told).");
        none("a KIND", k -> x.shifts(k, 1, 9), 3, 7, -1, MIN, MAX);
        none("a weight", w -> x.shifts(1, w, 9), 0, 100, -1, MIN, MAX);
        none("puts", p -> x.shifts(1, 1, p), 0, 50001, -1, MIN, MAX);
        s.due("SHOWN still", x.shift(0, 0), 22);
        none("shifts of no KINDS", k -> s.ship(ONE).shifts(k, 1, 1), 0, -1);
        none("shifts of no SHIP", k -> nowhere.shifts(k, 1, 1), 0, -1);
        s.says("35", "NONE: more than 2 (nothing is SHOWN);");
        s.due("none", x.shifts(2, 1, 50000), -1);
        for (int i = 0; i < 2; i++) {
            s.due("shift(" + i + ", 0)", x.shift(i, 0), -1);
            s.due("shift(" + i + ", 1)", x.shift(i, 1), -1);
        }
        s.due("shift(2, 1)", x.shift(2, 1), -1);
        KeptApart y = s.ship(ONE + "kind;kind deck;");
        s.due("no PLACE, nobody to shift", y.shifts(1, 1, 1), -1);
    }

    private void shift() {
        s.says("36", "Of what shifts() SHOWED last, i 0, 1: a shift, what 0: the BOX, 1: the PLACE; i 2, what 1: the PLACE of the late one.");
        KeptApart x = s.ship("ship bays 2 rows 4 hold 1 deck 0;level 1 across 9 along 1;kind;kind;apart 0 1 1;" + "box 0 weight 1;".repeat(4));
        s.says("36", "NONE: there is none such;");
        for (int i = 0; i < 2; i++) {
            s.due("ahead of any: shift(" + i + ", 0)", x.shift(i, 0), -1);
            s.due("ahead of any: shift(" + i + ", 1)", x.shift(i, 1), -1);
        }
        s.due("ahead of any: shift(2, 1)", x.shift(2, 1), -1);
        x.shifts(1, 1, 1);
        s.due("no shift: shift(0, 0)", x.shift(0, 0), -1);
        s.due("no shift: shift(0, 1)", x.shift(0, 1), -1);
        s.due("no shift: shift(2, 1)", x.shift(2, 1), 0);
        x.puts(0, 0);
        x.puts(1, 4);
        x.shifts(1, 1, 50);
        s.due("one: shift(0, 0)", x.shift(0, 0), 0);
        s.due("one: shift(0, 1)", x.shift(0, 1), 5);
        s.due("one: shift(1, 0)", x.shift(1, 0), -1);
        s.due("one: shift(1, 1)", x.shift(1, 1), -1);
        s.due("one: shift(2, 1)", x.shift(2, 1), 0);
        s.says("36", "i 0, 1: a shift, what 0: the BOX, 1: the PLACE;");
        x.puts(2, 1);
        x.puts(3, 5);
        s.due("two", x.shifts(1, 1, 99), 2);
        s.due("two: shift(0, 0)", x.shift(0, 0), 0);
        s.due("two: shift(0, 1)", x.shift(0, 1), 6);
        s.due("two: shift(1, 0)", x.shift(1, 0), 2);
        s.due("two: shift(1, 1)", x.shift(1, 1), 7);
        x.clears();
        s.due("acts change nothing of it", x.shift(1, 1), 7);
        s.due("SHOWN last", x.shifts(1, 1, 1), 0);
        s.due("nothing of two is left", x.shift(1, 1), -1);
        s.says("36", "-2 (i, what).");
        none("i", i -> x.shift(i, 1), 3, -1, MIN, MAX);
        none("what of a shift", what -> x.shift(0, what), 2, -1, MIN, MAX);
        none("what of the second one", what -> x.shift(1, what), 2, -1, MIN, MAX);
        // of the late one the PLACE alone is told: what 0 is none of its whats
        none("what of the late one", what -> x.shift(2, what), 0, 2, -1, MIN, MAX);
        none("i, nothing SHOWN", i -> s.ship(ONE).shift(i, 0), 3, -1);
        none("shift of no SHIP", i -> nowhere.shift(i, 1), 0, 1, 2);
    }

    private void ways() {
        s.says("37", "KINDS' BAYS with n BAYS (1 .. 8): in how many ways (1 without KINDS).");
        KeptApart x = s.ship(FLAT + "kind;".repeat(7));
        s.due("the least", x.ways(1), 1);
        s.due("the most", x.ways(8), 8L * 8 * 8 * 8 * 8 * 8 * 8);
        KeptApart all = s.ship(FLAT + "level 1 across 1 along 1;" + "kind;".repeat(7) + allApart());
        s.due("seven unlike BAYS of six", all.ways(6), 0);
        s.due("seven unlike BAYS of seven", all.ways(7), 5040);
        s.due("seven unlike BAYS of eight", all.ways(8), 40320);
        for (int n = 1; n <= 8; n++) {
            s.due("without KINDS", s.ship(FLAT).ways(n), 1);
        }
        s.says("37", "-2.");
        for (int n : new int[] {0, 9, -1, MIN, MAX}) {
            s.due("ways(" + n + ")", x.ways(n), -2);
        }
        s.due("ways(1) of no SHIP", nowhere.ways(1), -2);
    }

    private static String allApart() {
        StringBuilder sb = new StringBuilder();
        for (int a = 0; a < 7; a++) {
            for (int b = a + 1; b < 7; b++) {
                sb.append("apart ").append(a).append(' ').append(b).append(" 1;");
            }
        }
        return sb.toString();
    }

    private void span() {
        s.says("38", "The fewest BAYS (1 .. 8) with which there is a way.");
        s.due("without KINDS", s.ship(FLAT).span(), 1);
        s.due("KINDS that are not told apart", s.ship(FLAT + "kind;".repeat(7)).span(), 1);
        for (int along = 1; along <= 7; along++) {
            s.due("along " + along, s.ship(FLAT + "level 1 across 1 along " + along + ";kind;kind;apart 0 1 1;").span(), along + 1);
        }
        s.due("seven unlike BAYS", s.ship(FLAT + "level 1 across 1 along 1;" + "kind;".repeat(7) + allApart()).span(), 7);
        s.says("38", "NONE: none;");
        for (int along = 8; along <= 9; along++) {
            s.due("along " + along, s.ship(FLAT + "level 1 across 1 along " + along + ";kind;kind;apart 0 1 1;").span(), -1);
        }
        KeptApart free = s.ship(FLAT + "level 1 across 1 along 8;kind;kind;kind;apart 1 2 1;");
        s.due("one KIND free, the two others 8 apart", free.span(), -1);
        s.due("ways(8)", free.ways(8), 0);
        s.due("bayOf(8, 0)", free.bayOf(8, 0), -1);
        s.due("seven, two apart", s.ship(FLAT + "level 1 across 1 along 2;" + "kind;".repeat(7) + allApart()).span(), -1);
        s.says("38", "-2: there is no SHIP.");
        s.due("span()", nowhere.span(), -2);
    }

    private void bayOf() {
        s.says("39", "With n BAYS the BAY of a KIND in the first way (KIND by KIND the least BAY).");
        KeptApart x = s.ship(FLAT + "level 1 across 1 along 7;level 2 across 1 along 1;kind;kind;kind;apart 1 2 1;apart 0 1 2;");
        s.due("0 first: 1 is 7 then", x.bayOf(8, 0), 0);
        s.due("bayOf(8, 1)", x.bayOf(8, 1), 7);
        s.due("bayOf(8, 2)", x.bayOf(8, 2), 0);
        KeptApart all = s.ship(FLAT + "level 1 across 1 along 1;" + "kind;".repeat(7) + allApart());
        for (int k = 0; k < 7; k++) {
            s.due("seven unlike BAYS", all.bayOf(7, k), k);
            s.due("the same of eight", all.bayOf(8, k), k);
            s.due("no KINDS told apart", s.ship(FLAT + "kind;".repeat(7)).bayOf(1, k), 0);
        }
        // the first KIND can't be in BAY 0: the other two must be 3 from it on both sides, 6 from one another
        KeptApart y = s.ship(FLAT + "level 1 across 1 along 3;level 2 across 1 along 6;kind;kind;kind;apart 0 1 1;apart 0 2 1;apart 1 2 2;");
        s.due("bayOf(7, 0)", y.bayOf(7, 0), 3);
        s.due("bayOf(7, 1)", y.bayOf(7, 1), 0);
        s.due("bayOf(7, 2)", y.bayOf(7, 2), 6);
        s.says("39", "NONE: there is no way;");
        s.due("bayOf(7, 0)", x.bayOf(7, 0), -1);
        s.due("bayOf(1, 2)", x.bayOf(1, 2), -1);
        s.due("bayOf(6, 6)", all.bayOf(6, 6), -1);
        s.says("39", "-2.");
        none("n", n -> x.bayOf(n, 0), 0, 9, -1, MIN, MAX);
        none("a KIND", k -> x.bayOf(8, k), 3, 7, -1, MIN, MAX);
        none("a KIND, no way", k -> x.bayOf(1, k), 3, 7, -1, MIN, MAX);
        none("bayOf without KINDS", k -> s.ship(FLAT).bayOf(1, k), 0, -1);
        none("bayOf of no SHIP", k -> nowhere.bayOf(1, k), 0, -1);
    }

    private void voyage() {
        s.says("49", "As if she went from port 1 to 5: in each port, STACK by STACK, all BOXES from the lowest one of that port on are lifted, those of that port leave, the others come back in their order:");
        // 2 1 3: in 1 only 3 comes back: 2 3, in 2 again: 3
        KeptApart x = tower(2, 1, 3);
        s.due("voyage(0)", x.voyage(0), 2);
        // 1 3 2: in 1 both come back in their order: 3 2, in 2 none, in 3 none
        x = tower(1, 3, 2);
        s.due("voyage(0)", x.voyage(0), 2);
        s.due("all lie still", x.count(6), 3);
        // 1 2 1: in 1 the 2 comes back
        s.due("voyage(0)", tower(1, 2, 1).voyage(0), 1);
        s.due("above the hatch", tower(1, 1, 1, 5, 5, 5).voyage(0), 0);
        s.due("asked again", x.voyage(0), 2);
        String ports = "kind;box 0 weight 1;box 0 weight 1 port 2;box 0 weight 1 port 3;";
        x = s.ship("ship bays 1 rows 2 hold 1 deck 3;" + ports);
        for (int b = 0; b < 3; b++) {
            x.puts(b, b + 1);
        }
        s.due("three on deck, the hold being low", x.voyage(0), 3);
        x = s.ship("ship bays 1 rows 2 hold 3 deck 1;" + ports);
        for (int b = 0; b < 3; b++) {
            x.puts(b, b + 4);
        }
        s.due("three in the hold, the deck being low", x.voyage(0), 3);
        x = s.ship("ship bays 1 rows 3 hold 0 deck 1;" + ports);
        x.loads();
        s.due("one beside the other", x.voyage(0), 0);
        s.says("49", "what 0: how many came back in all,");
        s.due("nobody lies", tower().voyage(0), 0);
        s.due("all of one port", tower(5, 5, 5).voyage(0), 0);
        s.due("the last port above the first ones", tower(1, 2, 5, 3, 4, 5).voyage(0), 3 + 3);
        KeptApart full = s.ship("ship bays 1 rows 4 hold 3 deck 3;kind;" + "box 0 weight 1;box 0 weight 1 port 2;box 0 weight 1 port 3;".repeat(8));
        full.loads();
        s.due("three in each of eight STACKS", full.voyage(0), 24);
        s.says("49", "1: the port in which the most did, of like ones the least (NONE: none did).");
        s.due("two in 1, one in 2", tower(1, 2, 3).voyage(1), 1);
        s.due("one in 4", tower(4, 5).voyage(1), 4);
        s.due("two in 1, two in 3", tower(3, 4, 5, 1, 2, 2).voyage(1), 1);
        s.due("one in 1, two in 3", tower(3, 4, 5, 1, 2).voyage(1), 3);
        s.due("none did", tower(5, 4, 3).voyage(1), -1);
        s.due("nobody lies", tower().voyage(1), -1);
        s.says("49", "-2.");
        none("voyage", tower(1)::voyage, 2, -1, MIN, MAX);
        none("voyage of no SHIP", nowhere::voyage, 0, 1);
    }

    /** Boxes of these ports one on the other, three in the hold, the others on deck. */
    private KeptApart tower(int... ports) {
        StringBuilder sb = new StringBuilder(TOWER + "kind;");
        for (int port : ports) {
            sb.append("box 0 weight 1 port ").append(port).append(';');
        }
        KeptApart x = s.ship(sb.toString());
        for (int b = 0; b < ports.length; b++) {
            s.due("puts(" + b + ", " + b + ")", x.puts(b, b), 0);
        }
        return x;
    }

    private void steady() {
        s.says("52", "Of all twos of BOXES that could so change places that by which LEAN by BAYS (without its sign) becomes least,");
        KeptApart x = s.ship("ship bays 3 rows 1 hold 2 deck 0;kind;box 0 weight 9;box 0 weight 2;box 0 weight 4;box 0 weight 1;");
        x.puts(0, 4);
        x.puts(1, 2);
        x.puts(2, 0);
        // 10 now; 0 and 1: 4 - 8; 0 and 2: 8 - 18; 1 and 2: 18 - 4
        s.due("lean(0)", x.lean(0), 10);
        s.due("to the other side", x.steady(), 1);
        s.due("nothing is changed", x.box(0, 3), 4);
        s.due("no act", x.count(9), 3);
        x.puts(3, 5);
        // 0 can't be lifted, 12 now; 1 and 2: 16; 1 and 3: 14; 2 and 3: 24
        s.due("one that can't be lifted", x.steady(), -1);
        s.says("52", "of like ones the first (100 times the lesser BOX and the other one; the lesser one is the first one in swaps()).");
        x = s.ship("ship bays 3 rows 2 hold 1 deck 0;kind;" + "box 0 weight 1;".repeat(21) + "box 0 weight 9;box 0 weight 1;box 0 weight 1;");
        x.puts(21, 0);
        x.puts(22, 2);
        x.puts(23, 3);
        s.due("21 and 22 or 23", x.steady(), 2122);
        x.lifts(22);
        s.due("the last one", x.steady(), 2123);
        s.due("swaps(21, 23)", x.swaps(21, 23), 0);
        x = s.ship("ship bays 3 rows 1 hold 1 deck 1;kind hold;kind;box 0 weight 9;box 1 weight 1;box 1 weight 1;");
        x.puts(0, 0);
        x.puts(1, 3);
        x.puts(2, 5);
        s.due("a KIND for the hold may not change with one on deck", x.steady(), -1);
        s.says("52", "NONE: by none less than now;");
        s.due("nobody lies", s.ship(ONE + "kind;box 0 weight 1;").steady(), -1);
        s.due("no BOXES", s.ship(ONE).steady(), -1);
        x = s.ship("ship bays 2 rows 1 hold 1 deck 0;kind;box 0 weight 9;box 0 weight 1;box 0 weight 9;");
        x.puts(0, 0);
        s.due("one alone", x.steady(), -1);
        x.puts(1, 1);
        s.due("as much to the other side", x.steady(), -1);
        x.lifts(1);
        x.puts(2, 1);
        s.due("she does not lean", x.steady(), -1);
        s.says("52", "-2: there is no SHIP.");
        s.due("steady()", nowhere.steady(), -2);
    }
}
