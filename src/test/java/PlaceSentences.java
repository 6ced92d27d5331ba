import java.util.function.IntUnaryOperator;

/** Term II and the promises about what there is, what is far, near, free, and why a box may not lie there. */
final class PlaceSentences {
    private static final int MIN = Integer.MIN_VALUE;
    private static final int MAX = Integer.MAX_VALUE;
    /** CODE: tier and 3 times (row and 2 times bay); tier 2 is on deck. */
    private static final String SHIP = "ship bays 3 rows 2 hold 2 deck 1;";
    private static final String LEVEL = "level 1 across 9 along 9;";
    private static final String ONE = "ship bays 1 rows 1 hold 1 deck 0;";

    private final Sentences s;
    private final KeptApart nowhere = new KeptApart();

    PlaceSentences(Sentences s) {
        this.s = s;
    }

    void all() {
        codes();
        far();
        farByWalls();
        near();
        why();
        whyLeast();
        whyOfOneThatLies();
        wall();
        level();
        kindAndApart();
        box();
        at();
        between();
        farCall();
        whyCall();
        nearIn();
        may();
        weighs();
        hang();
        stack();
        kindsIn();
        free();
        loosest();
        clear();
    }

    private void none(String call, IntUnaryOperator asked, int... arguments) {
        for (int n : arguments) {
            s.due(call + " of " + n, asked.applyAsInt(n), -2);
        }
    }

    private void codes() {
        s.says("II", "PLACE: BAY, ROW, TIER, as CODE: TIER and TIERS times (ROW and ROWS times BAY);");
        KeptApart x = s.ship("ship bays 2 rows 3 hold 1 deck 2;kind;box 0 weight 1;");
        int code = 0;
        for (int bay = 0; bay < 2; bay++) {
            for (int row = 0; row < 3; row++) {
                for (int tier = 0; tier < 3; tier++) {
                    s.due("ROWS from 0 to " + code, x.between(0, code, 0), row);
                    s.due("BAYS from 0 to " + code, x.between(0, code, 1), bay);
                    s.due("the hatch between 0 and " + code, x.between(0, code, 3), tier == 0 ? 0 : 1);
                    code++;
                }
            }
        }
        s.due("the last one", x.at(17), -1);
        s.due("one beyond", x.at(18), -2);
        s.due("puts(0, 15)", x.puts(0, 15), 0);
        s.due("BAY 1, ROW 2, TIER 0", x.stack(1, 2, 0, 0), 0);
        x = s.ship("ship bays 6 rows 4 hold 3 deck 3;");
        s.due("the last one of all", x.at(143), -1);
        s.due("one beyond", x.at(144), -2);
        x = s.ship(ONE);
        s.due("the only one", x.at(0), -1);
        s.due("one beyond", x.at(1), -2);

        s.says("II", "TIERS from the lowest one (0) on, those of the hold first.");
        x = s.ship("ship bays 1 rows 1 hold 3 deck 3;kind hold;kind deck;box 0 weight 1;box 1 weight 1;");
        for (int tier = 0; tier < 6; tier++) {
            s.due("the hatch below " + tier, x.between(0, tier, 3), tier < 3 ? 0 : 1);
        }
        s.due("the lowest one of the hold", x.may(0, 0), 0);
        s.due("the lowest one on deck", x.may(1, 0), 3);
        x = s.ship("ship bays 1 rows 1 hold 0 deck 3;kind hold;kind deck;box 0 weight 1;box 1 weight 1;");
        s.due("no hold: all are on deck", x.why(0, 0), 3);
        s.due("no hold: the lowest one", x.may(1, 0), 0);
        x = s.ship("ship bays 1 rows 1 hold 3 deck 0;kind hold;kind deck;box 0 weight 1;box 1 weight 1;");
        s.due("no deck: all are in the hold", x.may(1, -1), 0);
        s.due("no deck: the lowest one", x.may(0, 0), 0);

        s.says("II", "A STACK: the TIERS of one BAY and ROW in the hold, or those on deck.");
        x = s.ship("ship bays 2 rows 2 hold 2 deck 2;bears 10 10;kind;" + "box 0 weight 5;".repeat(8));
        int[] places = {0, 1, 2, 3, 4, 5, 8, 9};
        for (int b = 0; b < 8; b++) {
            s.due("ten in each stack: puts(" + b + ", " + places[b] + ")", x.puts(b, places[b]), 0);
        }
        x = s.ship("ship bays 1 rows 2 hold 1 deck 3;bears 9 10;kind;box 0 weight 9;" + "box 0 weight 4;".repeat(4));
        x.puts(0, 0);
        x.puts(1, 1);
        x.puts(2, 2);
        s.due("on deck four and four", x.weighs(0, 0, 1), 8);
        s.due("and four more", x.why(3, 3), 4);
        s.due("in the hold nine", x.weighs(0, 0, 0), 9);
        s.due("the next ROW's deck", x.why(3, 5), 0);
        x = s.ship("ship bays 2 rows 2 hold 2 deck 2;bears 10 10;kind;" + "box 0 weight 5;".repeat(8));
        for (int b = 0; b < 8; b++) {
            x.puts(b, places[b]);
        }
        s.due("weighs(0, 0, 0)", x.weighs(0, 0, 0), 10);
        s.due("weighs(0, 0, 1)", x.weighs(0, 0, 1), 10);
        s.due("weighs(0, 1, 0)", x.weighs(0, 1, 0), 10);
        s.due("weighs(1, 0, 0)", x.weighs(1, 0, 0), 10);
    }

    private static int place(int bay, int row, int tier) {
        return tier + 2 * (row + 4 * bay);
    }

    private void far() {
        s.says("II", "Two PLACES are FAR by a LEVEL, if they are across ROWS apart or more,");
        String great = "ship bays 6 rows 4 hold 1 deck 1;";
        for (int across = 1; across <= 9; across++) {
            KeptApart x = s.ship(great + "level 2 across " + across + " along 9;");
            for (int row = 0; row < 4; row++) {
                int due = row >= across ? 1 : 0;
                s.due("across " + across + ", " + row + " apart", x.far(place(2, 0, 0), place(2, row, 0), 2), due);
                s.due("the other way round", x.far(place(2, row, 1), place(2, 0, 1), 2), due);
            }
        }
        s.says("II", "or along BAYS apart or more,");
        for (int along = 1; along <= 9; along++) {
            KeptApart x = s.ship(great + "level 3 across 9 along " + along + ";");
            for (int bay = 0; bay < 6; bay++) {
                int due = bay >= along ? 1 : 0;
                s.due("along " + along + ", " + bay + " apart", x.far(place(0, 3, 0), place(bay, 3, 0), 3), due);
                s.due("the other way round", x.far(place(5, 0, 1), place(5 - bay, 0, 1), 3), due);
            }
        }
        s.says("II", "or (hatch) one is in the hold, the other one on deck.");
        KeptApart x = s.ship(great + "level 1 across 9 along 9 hatch;level 2 across 9 along 9;");
        s.due("hold and deck, with hatch", x.far(0, 1, 1), 1);
        s.due("deck and hold, with hatch", x.far(1, 0, 1), 1);
        s.due("hold and hold, with hatch", x.far(0, 46, 1), 0);
        s.due("deck and deck, with hatch", x.far(1, 47, 1), 0);
        s.due("hold and deck, without", x.far(0, 1, 2), 0);
    }

    private void farByWalls() {
        s.says("II", "or (walls not 0) as many walls or more that are SHUT lie between their BAYS,");
        String doors = "ship bays 6 rows 1 hold 1 deck 0;wall 0 door;wall 1 door;wall 2 door;wall 3 door;wall 4 door;";
        for (int walls = 0; walls <= 5; walls++) {
            KeptApart x = s.ship(doors + "level 4 across 9 along 9" + (walls == 0 ? "" : " walls " + walls) + ";");
            for (int shut = 0; shut <= 5; shut++) {
                int due = walls > 0 && shut >= walls ? 1 : 0;
                s.due("walls " + walls + " with " + shut + " SHUT", x.far(0, 5, 4), due);
                s.due("the other way round", x.far(5, 0, 4), due);
                x.opens(shut, 0);
            }
        }
        KeptApart x = s.ship(doors + "level 1 across 9 along 9 walls 1;");
        x.opens(2, 0);
        s.due("behind one of both", x.far(0, 2, 1), 0);
        s.due("between both", x.far(2, 3, 1), 1);
        s.due("ahead of one of both", x.far(3, 5, 1), 0);
        s.due("one and the same", x.far(2, 2, 1), 0);

        s.says("II", "A wall without a DOOR, with one that is not open, is SHUT.");
        x = s.ship("ship bays 4 rows 1 hold 1 deck 0;wall 0;wall 1 door;");
        s.due("without a DOOR", x.between(0, 1, 2), 1);
        s.due("with an open one", x.between(1, 2, 2), 0);
        s.due("no wall", x.between(2, 3, 2), 0);
        x.opens(1, 0);
        s.due("with one that is not open", x.between(1, 2, 2), 1);
        s.due("both", x.between(3, 0, 2), 2);
        x.opens(1, 1);
        s.due("open again", x.between(1, 2, 2), 0);
    }

    private void near() {
        s.says("II", "Two BOXES are NEAR, if they lie, their KINDS are told apart, and their PLACES are not FAR by that LEVEL.");
        KeptApart x = s.ship("ship bays 2 rows 1 hold 1 deck 0;wall 0 door;level 1 across 9 along 9 walls 1;level 2 across 9 along 1;kind;kind;kind;"
            + "apart 0 1 1;apart 0 2 2;apart 0 0 2;box 0 weight 1;box 1 weight 1;box 2 weight 1;box 0 weight 1;");
        x.opens(0, 0);
        x.puts(0, 0);
        s.due("one lies nowhere", x.nearTo(0), 0);
        s.due("nor do both", x.nearTo(1), 0);
        x.puts(1, 1);
        s.due("a SHUT wall between", x.near(-1), 0);
        s.due("no wall between", x.opens(0, 1), 1);
        s.due("the two", x.near(0), 1);
        x.opens(0, 0);
        x.lifts(1);
        x.puts(2, 1);
        s.due("FAR by another LEVEL", x.opens(0, 1), 0);
        x.clears();
        x.puts(2, 0);
        s.due("KINDS that are not told apart", x.why(1, 1), 0);
        s.due("nearIn of them", x.nearIn(1, 0), -1);
        x.clears();
        x.puts(0, 0);
        s.due("one KIND told apart from itself", x.nearIn(3, 0), 0);
        s.due("one KIND that is not", x.nearIn(0, 0), -1);
    }

    private void why() {
        s.says("II", "WHY a BOX may not come to a PLACE, the least:");
        KeptApart x = s.ship(SHIP + "kind;box 0 weight 9;box 0 weight 99;box 0 weight 9;");
        s.due("nothing against it", x.why(0, 0), 0);
        s.says("II", "1 a BOX lies there;");
        x.puts(0, 0);
        s.due("another one", x.why(2, 0), 1);
        s.says("II", "2 it would hang (the PLACE right below in its STACK is free);");
        s.due("the second TIER", x.why(2, 4), 2);
        s.due("the lowest one of the hold", x.why(2, 3), 0);
        s.due("the lowest one on deck, the hold being empty", x.why(2, 5), 0);
        s.due("one lies right below", x.why(2, 1), 0);
        KeptApart y = s.ship("ship bays 1 rows 2 hold 0 deck 3;kind;box 0 weight 9;box 0 weight 9;");
        y.puts(0, 0);
        s.due("two above the lowest one", y.why(1, 2), 2);
        s.due("right on it", y.why(1, 1), 0);
        s.due("the next row's lowest one", y.why(1, 3), 0);
        s.due("the next row's second one", y.why(1, 4), 2);

        s.says("II", "3 its KIND is not to lie in the hold, on deck;");
        y = s.ship(SHIP + "kind;kind deck;kind hold;box 0 weight 1;box 1 weight 1;box 2 weight 1;");
        int[][] due = {{0, 0}, {3, 0}, {0, 3}};
        for (int b = 0; b < 3; b++) {
            s.due("kind " + b + " in the hold", y.why(b, 0), due[b][0]);
            s.due("kind " + b + " on deck", y.why(b, 2), due[b][1]);
        }

        s.says("II", "4 its STACK would weigh more than it bears;");
        y = s.ship(SHIP + "bears 20 10;kind;box 0 weight 10;box 0 weight 10;box 0 weight 11;box 0 weight 20;box 0 weight 21;");
        s.due("ten on deck", y.why(0, 2), 0);
        s.due("eleven on deck", y.why(2, 2), 4);
        s.due("twenty in the hold", y.why(3, 0), 0);
        s.due("twenty-one in the hold", y.why(4, 0), 4);
        y.puts(2, 0);
        s.due("eleven and ten", y.why(0, 1), 4);
        y.lifts(2);
        y.puts(1, 0);
        s.due("ten and ten", y.why(0, 1), 0);
        y = s.ship(SHIP + "bears 999 1;kind;box 0 weight 1;box 0 weight 2;");
        s.due("one where one is borne", y.why(0, 2), 0);
        s.due("two where one is borne", y.why(1, 2), 4);

        s.says("II", "5 it is heavier than the one right below it in its STACK;");
        y = s.ship("ship bays 1 rows 1 hold 3 deck 1;kind;box 0 weight 9;box 0 weight 8;box 0 weight 9;box 0 weight 99;box 0 weight 8;");
        y.puts(0, 0);
        s.due("as heavy", y.why(2, 1), 0);
        s.due("heavier", y.why(3, 1), 5);
        y.puts(1, 1);
        s.due("heavier than that one, not than the lowest one", y.why(2, 2), 5);
        s.due("as heavy as that one", y.why(4, 2), 0);
        s.due("the one below the hatch is not of its STACK", y.why(3, 3), 0);

        s.says("II", "6 it would be NEAR to another one.");
        y = s.ship("ship bays 3 rows 1 hold 1 deck 0;level 1 across 9 along 2;kind;kind;apart 0 1 1;box 0 weight 1;box 1 weight 1;box 0 weight 1;");
        y.puts(0, 0);
        s.due("one BAY apart", y.why(1, 1), 6);
        s.due("two BAYS apart", y.why(1, 2), 0);
        s.due("of a KIND that is not told apart", y.why(2, 1), 0);
    }

    /** Each number, where every greater one is so, too. */
    private void whyLeast() {
        s.says("II", "the least:");
        KeptApart x = s.ship("ship bays 1 rows 1 hold 3 deck 1;bears 10 10;level 1 across 9 along 9;kind;kind deck;apart 0 1 1;kind;apart 2 0 1;"
            + "box 0 weight 5;box 1 weight 99;box 2 weight 6;box 2 weight 5;box 2 weight 4;box 0 weight 5;");
        x.puts(0, 0);
        s.due("1 ahead of 3, 4, 6", x.why(1, 0), 1);
        s.due("2 ahead of 3, 4, 6", x.why(1, 2), 2);
        s.due("3 ahead of 4, 5, 6", x.why(1, 1), 3);
        s.due("4 ahead of 5, 6", x.why(2, 1), 4);
        s.due("6 alone", x.why(3, 1), 6);
        s.due("6 alone, lighter", x.why(4, 1), 6);
        s.due("none", x.why(5, 1), 0);
        x = s.ship("ship bays 1 rows 1 hold 2 deck 0;bears 99 99;level 1 across 9 along 9;kind;kind;apart 0 1 1;box 0 weight 5;box 1 weight 6;");
        x.puts(0, 0);
        s.due("5 ahead of 6", x.why(1, 1), 5);
    }

    private void whyOfOneThatLies() {
        s.says("II", "(0: it may. The BOX lies elsewhere, or nowhere:");
        KeptApart x = s.ship("ship bays 2 rows 1 hold 3 deck 0;bears 10 10;" + LEVEL + "kind;kind;apart 0 0 1;"
            + "box 0 weight 6;box 1 weight 4;box 1 weight 4;box 0 weight 1;");
        s.due("nowhere", x.why(0, 0), 0);
        x.puts(0, 3);
        s.due("elsewhere", x.why(0, 0), 0);
        s.says("II", "where it lies it is taken for not being there;");
        s.due("it is not NEAR to itself", x.nearIn(0, 0), -1);
        s.due("another one would be", x.nearIn(3, 0), 0);
        s.due("right on itself it would hang", x.why(0, 4), 2);
        s.due("where it lies it lies", x.why(0, 3), 1);
        x.puts(1, 4);
        s.due("six and four, not six and four and six", x.why(0, 5), 5);
        x = s.ship("ship bays 2 rows 1 hold 3 deck 0;bears 10 10;kind;box 0 weight 5;box 0 weight 5;");
        x.puts(0, 0);
        x.puts(1, 1);
        s.due("five and five, not five and five and five", x.why(0, 2), 0);
        s.says("II", "BOXES on it stay.)");
        s.due("the one on it bears it", x.why(0, 2), 0);
        s.due("the one on it lies there", x.why(0, 1), 1);
        s.due("the one on it lies there still", x.at(1), 1);

        s.says("II", "One that has another one right on it in its STACK can't be lifted.");
        x = s.ship("ship bays 1 rows 2 hold 2 deck 1;kind;" + "box 0 weight 5;".repeat(5));
        x.puts(0, 0);
        s.due("another one in the next ROW", x.puts(1, 3), 0);
        s.due("another one above the hatch", x.puts(2, 2), 0);
        s.due("nothing is right on it", x.lifts(0), 0);
        x.puts(0, 0);
        x.puts(3, 1);
        s.due("right on it", x.lifts(0), -5);
        s.due("the upper one, another one being above the hatch", x.lifts(3), 1);
        s.due("then the lower one", x.lifts(0), 0);
        s.due("the highest one of all", x.lifts(2), 2);
    }

    private void wall() {
        s.says("7", "The wall between a BAY and the next one: 0 none, 1 without a DOOR, 2 its DOOR is open, 3 it is not.");
        KeptApart x = s.ship("ship bays 6 rows 1 hold 1 deck 0;wall 0;wall 1 door;wall 4 door;");
        x.opens(4, 0);
        int[] walls = {1, 2, 0, 0, 3};
        for (int bay = 0; bay < 5; bay++) {
            s.due("wall(" + bay + ")", x.wall(bay), walls[bay]);
        }
        s.says("7", "-2 (the last BAY, too).");
        none("wall", x::wall, 5, 6, -1, -2, MIN, MAX);
        none("wall of one BAY", s.ship(ONE)::wall, 0, 1, -1);
        none("wall of two BAYS", s.ship("ship bays 2 rows 1 hold 1 deck 0;wall 0;")::wall, 1, 2, -1);
        none("wall of no SHIP", nowhere::wall, 0, 1, -1);
    }

    private void level() {
        s.says("8", "Of a LEVEL, what 0: across, 1: along, 2: walls, 3: 1 with hatch, else 0.");
        KeptApart x = s.ship(SHIP + "level 1 across 9 along 1 walls 5;level 4 across 1 along 9 hatch;level 3 across 2 along 3 walls 1 hatch;");
        int[][] due = {{9, 1, 5, 0}, {-2, -2, -2, -2}, {2, 3, 1, 1}, {1, 9, 0, 1}};
        for (int l = 1; l <= 4; l++) {
            for (int what = 0; what < 4; what++) {
                s.due("level(" + l + ", " + what + ")", x.level(l, what), due[l - 1][what]);
            }
        }
        s.says("8", "-2.");
        none("a LEVEL that is not told", l -> x.level(l, 0), 0, 2, 5, -1, MIN, MAX);
        none("what", what -> x.level(1, what), -1, 4, MIN, MAX);
        none("a LEVEL of no SHIP", l -> nowhere.level(l, 0), 0, 1, 4);
        none("no LEVELS", l -> s.ship(SHIP).level(l, 0), 0, 1, 2, 3, 4, 5);
    }

    private void kindAndApart() {
        s.says("9", "Where a KIND is to lie: 0 anywhere, 1 on deck, 2 in the hold.");
        KeptApart x = s.ship(SHIP + "level 1 across 1 along 1;level 4 across 1 along 1;kind;kind deck;kind hold;kind;kind;kind;kind hold;apart 6 0 4;apart 6 6 1;");
        s.due("kind(0)", x.kind(0), 0);
        s.due("kind(1)", x.kind(1), 1);
        s.due("kind(6), the last one", x.kind(6), 2);
        s.says("9", "-2.");
        none("kind", x::kind, 7, 8, -1, MIN, MAX);
        none("kind of no KINDS", s.ship(SHIP)::kind, 0, -1);
        none("kind of no SHIP", nowhere::kind, 0, -1);

        s.says("10", "The LEVEL by which two KINDS are told apart (0: they are not).");
        s.due("apart(0, 6)", x.apart(0, 6), 4);
        s.due("apart(6, 0)", x.apart(6, 0), 4);
        s.due("apart(6, 6)", x.apart(6, 6), 1);
        s.due("apart(0, 0), not told", x.apart(0, 0), 0);
        s.due("apart(5, 6), not told", x.apart(5, 6), 0);
        s.says("10", "-2.");
        none("apart, the first one", k -> x.apart(k, 0), 7, 8, -1, MIN, MAX);
        none("apart, the second one", k -> x.apart(0, k), 7, 8, -1, MIN, MAX);
        none("apart of no KINDS", k -> s.ship(SHIP).apart(k, k), 0, -1);
        none("apart of no SHIP", k -> nowhere.apart(k, k), 0, -1);
    }

    private void box() {
        s.says("11", "Of a BOX, what 0: KIND, 1: weight, 2: port, 3: CODE of its PLACE (NONE).");
        KeptApart x = s.ship(SHIP + "kind;".repeat(7) + "box 6 weight 99 port 5;" + "box 0 weight 1 port 1;".repeat(23));
        int[] first = {6, 99, 5, -1};
        int[] last = {0, 1, 1, -1};
        for (int what = 0; what < 4; what++) {
            s.due("box(0, " + what + ")", x.box(0, what), first[what]);
            s.due("box(23, " + what + ")", x.box(23, what), last[what]);
        }
        x.puts(0, 0);
        x.puts(23, 17);
        s.due("the least CODE", x.box(0, 3), 0);
        s.due("the greatest CODE", x.box(23, 3), 17);
        x.lifts(23);
        s.due("nowhere again", x.box(23, 3), -1);
        s.says("11", "-2.");
        none("box", b -> x.box(b, 0), 24, 25, -1, MIN, MAX);
        none("what", what -> x.box(0, what), 4, -1, MIN, MAX);
        none("box of no BOXES", b -> s.ship(SHIP + "kind;").box(b, 0), 0, -1);
        none("box of no SHIP", b -> nowhere.box(b, 3), 0, -1);
    }

    private void at() {
        s.says("12", "The BOX that lies in a PLACE (CODE).");
        KeptApart x = s.ship(SHIP + "kind;" + "box 0 weight 1;".repeat(24));
        x.puts(23, 0);
        x.puts(0, 17);
        s.due("at(0)", x.at(0), 23);
        s.due("at(17)", x.at(17), 0);
        s.says("12", "NONE: none;");
        for (int place = 1; place < 17; place++) {
            s.due("at(" + place + ")", x.at(place), -1);
        }
        s.says("12", "-2.");
        none("at", x::at, 18, 19, -1, MIN, MAX);
        none("at of the greatest ship", s.ship("ship bays 6 rows 4 hold 3 deck 3;")::at, 144, -1);
        none("at of no SHIP", nowhere::at, 0, -1);
    }

    private void between() {
        s.says("13", "Between two PLACES, what 0: ROWS apart, 1: BAYS apart, 2: SHUT walls between their BAYS, 3: 1 if one is in the hold, the other one on deck, else 0.");
        KeptApart x = s.ship("ship bays 6 rows 4 hold 3 deck 3;wall 0;wall 1;wall 2;wall 3;wall 4;");
        int[] most = {3, 5, 5, 1};
        for (int what = 0; what < 4; what++) {
            s.due("between(0, 143, " + what + ")", x.between(0, 143, what), most[what]);
            s.due("between(143, 0, " + what + ")", x.between(143, 0, what), most[what]);
            s.due("between(77, 77, " + what + ")", x.between(77, 77, what), 0);
        }
        s.due("a ROW back, a BAY on", x.between(18, 24, 0), 3);
        s.due("a ROW back, a BAY on", x.between(18, 24, 1), 1);
        s.says("13", "-2.");
        none("the first one", p -> x.between(p, 0, 0), 144, -1, MIN, MAX);
        none("the second one", p -> x.between(0, p, 0), 144, -1, MIN, MAX);
        none("what", what -> x.between(0, 0, what), 4, -1, MIN, MAX);
        none("between of no SHIP", what -> nowhere.between(0, 0, what), 0, 1, 2, 3);
    }

    private void farCall() {
        s.says("14", "1 if two PLACES are FAR by a LEVEL, else 0.");
        KeptApart x = s.ship("ship bays 6 rows 4 hold 3 deck 3;level 4 across 3 along 5;level 2 across 4 along 6;");
        s.due("three ROWS, five BAYS apart", x.far(0, 143, 4), 1);
        s.due("not four, not six", x.far(0, 143, 2), 0);
        s.due("one and the same", x.far(143, 143, 4), 0);
        s.says("14", "-2.");
        none("the first one", p -> x.far(p, 0, 4), 144, -1, MIN, MAX);
        none("the second one", p -> x.far(0, p, 4), 144, -1, MIN, MAX);
        none("a LEVEL that is not told", l -> x.far(0, 0, l), 0, 1, 3, 5, -1, MIN, MAX);
        none("far of no SHIP", l -> nowhere.far(0, 0, l), 0, 1, 4);
    }

    private void whyCall() {
        s.says("15", "WHY a BOX may not come to a PLACE (1: it lies there itself, too); 0: it may.");
        KeptApart x = s.ship(SHIP + "kind;" + "box 0 weight 1;".repeat(24));
        s.due("why(23, 17)", x.why(23, 17), 0);
        x.puts(23, 17);
        s.due("it lies there itself", x.why(23, 17), 1);
        s.due("another one lies there", x.why(0, 17), 1);
        s.due("it may come elsewhere", x.why(23, 0), 0);
        s.says("15", "-2.");
        none("a BOX", b -> x.why(b, 0), 24, -1, MIN, MAX);
        none("a PLACE", p -> x.why(0, p), 18, -1, MIN, MAX);
        none("why of no SHIP", p -> nowhere.why(0, p), 0, -1);
    }

    private void nearIn() {
        s.says("16", "With which BOX it would be NEAR in a PLACE (the least one; whatever else is so).");
        KeptApart x = s.ship("ship bays 3 rows 1 hold 2 deck 0;bears 5 5;level 1 across 9 along 2;kind;kind deck;apart 0 1 1;"
            + "box 1 weight 9;box 0 weight 1;box 0 weight 1;box 0 weight 1;");
        x.puts(2, 0);
        x.puts(1, 1);
        s.due("the least one, where another one lies", x.nearIn(0, 0), 1);
        s.due("where that one lies itself", x.nearIn(0, 1), 1);
        s.due("where it would hang, its KIND may not lie and it is too heavy", x.nearIn(0, 3), 1);
        x.lifts(1);
        s.due("the other one then", x.nearIn(0, 3), 2);
        s.says("16", "NONE: none;");
        s.due("two BAYS apart", x.nearIn(0, 4), -1);
        s.due("its own KIND", x.nearIn(3, 0), -1);
        s.due("itself", x.nearIn(2, 0), -1);
        x.clears();
        s.due("nobody lies", x.nearIn(0, 0), -1);
        s.says("16", "-2.");
        none("a BOX", b -> x.nearIn(b, 0), 4, 24, -1, MIN, MAX);
        none("a PLACE", p -> x.nearIn(0, p), 6, 144, -1, MIN, MAX);
        none("nearIn of no SHIP", p -> nowhere.nearIn(0, p), 0, -1);
    }

    private void may() {
        s.says("17", "How many PLACES there are to which a BOX may come (k NONE), the k-th by CODE (from 0).");
        KeptApart x = s.ship("ship bays 6 rows 4 hold 3 deck 3;kind;kind hold;box 0 weight 2;box 1 weight 1;box 0 weight 2;");
        s.due("every STACK's lowest one", x.may(0, -1), 48);
        s.due("in the hold alone", x.may(1, -1), 24);
        for (int k = 0; k < 48; k++) {
            s.due("may(0, " + k + ")", x.may(0, k), 3 * k);
        }
        x.puts(0, 0);
        s.due("right on it, too", x.may(1, 0), 1);
        s.due("the last one", x.may(1, 23), 138);
        s.due("itself: not where it lies, nor on itself", x.may(0, -1), 47);
        s.says("17", "NONE: not so many;");
        s.due("one beyond", x.may(1, 24), -1);
        s.due("may(1, MAX)", x.may(1, MAX), -1);
        KeptApart y = s.ship(ONE + "kind;kind deck;box 0 weight 1;box 1 weight 1;");
        s.due("none at all: how many", y.may(1, -1), 0);
        s.due("none at all: the first one", y.may(1, 0), -1);
        y.puts(0, 0);
        s.due("all PLACES taken: how many", y.may(0, -1), 0);
        s.due("all PLACES taken: the first one", y.may(0, 0), -1);
        s.says("17", "-2 (k below NONE, too).");
        none("k", k -> x.may(0, k), -2, -3, MIN);
        none("a BOX, how many", b -> x.may(b, -1), 3, 24, -1, MIN, MAX);
        none("a BOX, one beyond", b -> x.may(b, 99), 3, 24, -1, MIN, MAX);
        none("may of no SHIP", k -> nowhere.may(0, k), -2, -1, 0);
    }

    private void weighs() {
        s.says("25", "What a STACK weighs (deck 1: on deck, 0: in the hold).");
        KeptApart x = s.ship("ship bays 6 rows 4 hold 3 deck 3;kind;" + "box 0 weight 99;".repeat(6) + "box 0 weight 1;");
        for (int tier = 0; tier < 6; tier++) {
            s.due("weighs(5, 3, 0)", x.weighs(5, 3, 0), 99 * Math.min(tier, 3));
            s.due("weighs(5, 3, 1)", x.weighs(5, 3, 1), 99 * Math.max(tier - 3, 0));
            x.puts(tier, 138 + tier);
        }
        x.puts(6, 0);
        s.due("the least one", x.weighs(0, 0, 0), 1);
        s.due("an empty one", x.weighs(0, 0, 1), 0);
        s.due("the next ROW's", x.weighs(0, 1, 0), 0);
        s.due("no hold", s.ship("ship bays 1 rows 1 hold 0 deck 1;").weighs(0, 0, 0), 0);
        s.due("no deck", s.ship(ONE).weighs(0, 0, 1), 0);
        s.says("25", "-2.");
        none("a BAY", bay -> x.weighs(bay, 0, 0), 6, -1, MIN, MAX);
        none("a ROW", row -> x.weighs(0, row, 0), 4, -1, MIN, MAX);
        none("deck", deck -> x.weighs(0, 0, deck), 2, -1, MIN, MAX);
        none("weighs of no SHIP", deck -> nowhere.weighs(0, 0, deck), 0, 1);
    }

    private void hang() {
        s.says("40", "BOXES that lie, from the one in a PLACE on,");
        KeptApart x = s.ship("ship bays 3 rows 3 hold 2 deck 1;wall 0;wall 1 door;kind;" + "box 0 weight 1;".repeat(24));
        x.puts(23, 26);
        s.due("one alone, in the last PLACE", x.hang(26), 1);
        x.clears();
        s.says("40", "each in a PLACE right beside one ahead (a BAY, a ROW, a TIER apart alone),");
        // bay 1 has 9 .. 17, bay 2 18 .. 26; rows of three
        x.puts(0, 9);
        x.puts(1, 15);
        s.due("two ROWS apart", x.hang(9), 1);
        x.puts(2, 21);
        s.due("a BAY and a ROW apart", x.hang(21), 1);
        x.puts(3, 12);
        s.due("a ROW apart, a BAY apart", x.hang(9), 4);
        s.due("from another one on", x.hang(21), 4);
        x.puts(4, 13);
        s.due("a TIER apart", x.hang(13), 5);
        x.puts(5, 18);
        x.puts(6, 19);
        s.due("a BAY apart, closing a ring", x.hang(19), 7);
        KeptApart deck = s.ship("ship bays 2 rows 2 hold 1 deck 2;kind;" + "box 0 weight 1;".repeat(4));
        deck.puts(0, 1);
        deck.puts(1, 4);
        deck.puts(2, 7);
        s.due("on deck, in ROWS and BAYS beside one another", deck.hang(4), 3);
        s.says("40", "no SHUT wall between,");
        x.puts(7, 0);
        s.due("a wall without a DOOR", x.hang(0), 1);
        x.opens(1, 0);
        s.due("one side of a DOOR that is not open", x.hang(9), 4);
        s.due("the other side", x.hang(18), 3);
        x.opens(1, 1);
        s.due("open again", x.hang(18), 7);
        s.says("40", "nor the hatch between hold and deck: how many (it, too).");
        x.puts(8, 14);
        s.due("right above the hatch", x.hang(14), 1);
        s.due("right below it", x.hang(13), 7);
        KeptApart full = s.ship("ship bays 6 rows 4 hold 1 deck 0;kind;" + "box 0 weight 1;".repeat(24));
        full.loads();
        s.due("all there can be, from the first one", full.hang(0), 24);
        s.due("all there can be, from the last one", full.hang(23), 24);
        s.says("40", "NONE: no BOX lies there;");
        s.due("hang(1)", x.hang(1), -1);
        s.due("the last PLACE", x.hang(26), -1);
        s.says("40", "-2.");
        none("a PLACE", x::hang, 27, -1, MIN, MAX);
        none("hang of no SHIP", nowhere::hang, 0, -1);
    }

    private void stack() {
        s.says("45", "The i-th BOX (from below, 0 first) of a STACK.");
        KeptApart x = s.ship("ship bays 6 rows 4 hold 3 deck 3;kind;" + "box 0 weight 1;".repeat(24));
        for (int tier = 0; tier < 6; tier++) {
            x.puts(23 - tier, 138 + tier);
        }
        for (int i = 0; i < 3; i++) {
            s.due("stack(5, 3, 0, " + i + ")", x.stack(5, 3, 0, i), 23 - i);
            s.due("stack(5, 3, 1, " + i + ")", x.stack(5, 3, 1, i), 20 - i);
        }
        s.says("45", "NONE: not so many;");
        s.due("a fourth one", x.stack(5, 3, 0, 3), -1);
        s.due("a fourth one on deck", x.stack(5, 3, 1, 3), -1);
        s.due("the next STACK's are not of it", x.stack(5, 2, 1, 0), -1);
        s.due("i MAX", x.stack(5, 3, 0, MAX), -1);
        x.lifts(18);
        s.due("a third one that was lifted", x.stack(5, 3, 1, 2), -1);
        s.due("no hold", s.ship("ship bays 1 rows 1 hold 0 deck 1;").stack(0, 0, 0, 0), -1);
        s.due("no deck", s.ship(ONE).stack(0, 0, 1, 0), -1);
        s.says("45", "-2 (i below 0, too).");
        none("i", i -> x.stack(5, 3, 0, i), -1, -2, MIN);
        none("a BAY", bay -> x.stack(bay, 0, 0, 0), 6, -1, MIN, MAX);
        none("a ROW", row -> x.stack(0, row, 0, 0), 4, -1, MIN, MAX);
        none("deck", deck -> x.stack(0, 0, deck, 0), 2, -1, MIN, MAX);
        none("stack of no SHIP", i -> nowhere.stack(0, 0, 0, i), 0, -1);
    }

    private void kindsIn() {
        s.says("46", "KINDS of BOXES that lie in a BAY, as bits.");
        KeptApart x = s.ship(SHIP + "kind;".repeat(7) + "box 0 weight 5;box 6 weight 4;box 6 weight 4;box 3 weight 3;box 1 weight 1;box 2 weight 1;box 4 weight 1;box 5 weight 1;");
        s.due("nobody lies", x.kindsIn(2), 0);
        x.puts(0, 12);
        s.due("the first KIND", x.kindsIn(2), 1);
        x.puts(1, 13);
        x.puts(2, 14);
        s.due("the last KIND, twice", x.kindsIn(2), 65);
        x.puts(3, 11);
        s.due("the BAY ahead", x.kindsIn(1), 8);
        s.due("the first BAY", x.kindsIn(0), 0);
        x.lifts(1);
        s.due("one of both lifted", x.kindsIn(2), 65);
        x.lifts(2);
        s.due("both lifted", x.kindsIn(2), 1);
        x.clears();
        for (int b : new int[] {0, 1, 3, 4}) {
            x.puts(b, new int[] {0, 3, 0, 1, 4}[b]);
        }
        x.puts(5, 2);
        x.puts(6, 5);
        s.due("a full BAY", x.kindsIn(0), 1 + 64 + 8 + 2 + 4 + 16);
        s.says("46", "-2.");
        none("kindsIn", x::kindsIn, 3, -1, MIN, MAX);
        none("kindsIn of no SHIP", nowhere::kindsIn, 0, -1);
    }

    private void free() {
        s.says("47", "PLACES in which no BOX lies, what 0: how many,");
        KeptApart x = s.ship("ship bays 6 rows 4 hold 3 deck 3;kind;box 0 weight 1;");
        s.due("all of the greatest ship", x.free(0), 144);
        KeptApart y = s.ship("ship bays 6 rows 4 hold 1 deck 0;kind;" + "box 0 weight 1;".repeat(24));
        s.due("all of a flat one", y.free(0), 24);
        y.loads();
        s.due("a full one", y.free(0), 0);
        y.lifts(23);
        s.due("the last one", y.free(0), 1);
        s.says("47", "1: those that would not hang.");
        s.due("the last one", y.free(1), 1);
        y.puts(23, 23);
        s.due("a full one", y.free(1), 0);
        s.due("two for each BAY and ROW", x.free(1), 48);
        x.puts(0, 0);
        s.due("right on it", x.free(1), 48);
        KeptApart low = s.ship("ship bays 1 rows 1 hold 2 deck 0;kind;box 0 weight 1;");
        low.puts(0, 0);
        s.due("the highest one, right on it", low.free(1), 1);
        KeptApart two = s.ship("ship bays 1 rows 1 hold 3 deck 0;kind;box 0 weight 1;box 0 weight 1;box 0 weight 1;");
        two.puts(0, 0);
        s.due("on one: the highest one would hang", two.free(1), 1);
        two.puts(1, 1);
        s.due("on two", two.free(1), 1);
        two.puts(2, 2);
        s.due("on three", two.free(1), 0);
        s.due("no deck", s.ship("ship bays 1 rows 1 hold 3 deck 0;").free(1), 1);
        s.due("no hold", s.ship("ship bays 1 rows 1 hold 0 deck 3;").free(1), 1);
        KeptApart z = s.ship("ship bays 1 rows 1 hold 1 deck 1;kind;box 0 weight 1;");
        z.puts(0, 0);
        s.due("above the hatch", z.free(1), 1);
        s.says("47", "-2.");
        none("free", x::free, 2, -1, MIN, MAX);
        none("free of no SHIP", nowhere::free, 0, 1);
    }

    private void loosest() {
        s.says("48", "Of PLACES to which a BOX may come that from which the fewest BAYS to a BOX that lies (not it) and is told apart from it are the most");
        KeptApart x = s.ship("ship bays 6 rows 1 hold 1 deck 0;level 1 across 9 along 1;kind;kind;kind;apart 0 1 1;apart 1 1 1;"
            + "box 0 weight 1;box 1 weight 1;box 1 weight 1;box 2 weight 1;");
        x.puts(1, 0);
        s.due("five BAYS from it", x.loosest(0), 5);
        x.puts(2, 5);
        s.due("two from both", x.loosest(0), 2);
        s.due("itself does not count", x.loosest(1), 1);
        x.puts(3, 2);
        s.due("a PLACE to which it may not come", x.loosest(0), 3);
        KeptApart beside = s.ship("ship bays 1 rows 2 hold 1 deck 0;level 1 across 1 along 9;kind;kind;apart 0 1 1;box 0 weight 1;box 1 weight 1;");
        beside.puts(0, 0);
        s.due("no BAY from it, a ROW apart", beside.loosest(1), 1);
        KeptApart first = s.ship("ship bays 4 rows 1 hold 1 deck 0;level 1 across 9 along 1;kind;kind;apart 0 1 1;box 0 weight 1;box 1 weight 1;");
        first.puts(0, 0);
        s.due("far from the first BOX", first.loosest(1), 3);
        s.says("48", "(without such a BOX: as if it were 99),");
        s.due("a KIND told apart from none", x.loosest(3), 1);
        x.clears();
        s.due("nobody lies", x.loosest(0), 0);
        x.puts(0, 0);
        s.due("it alone lies", x.loosest(0), 1);
        s.says("48", "of like ones the least CODE.");
        x.clears();
        x.puts(1, 2);
        x.puts(3, 5);
        s.due("0 and 4 are two from it", x.loosest(0), 0);
        s.says("48", "NONE: it may come to none;");
        KeptApart y = s.ship(ONE + "kind;kind deck;box 0 weight 1;box 1 weight 1;box 0 weight 1;");
        s.due("no PLACE for its KIND", y.loosest(1), -1);
        y.puts(0, 0);
        s.due("no free PLACE", y.loosest(2), -1);
        s.due("none but where it lies", y.loosest(0), -1);
        s.says("48", "-2.");
        none("loosest", x::loosest, 4, 24, -1, MIN, MAX);
        none("loosest of no SHIP", nowhere::loosest, 0, -1);
    }

    private void clear() {
        s.says("50", "PLACES in which no BOX lies and in which one of a KIND would be NEAR to none (whatever else is so): how many (k NONE),");
        KeptApart x = s.ship("ship bays 6 rows 4 hold 3 deck 3;bears 1 1;level 1 across 9 along 1;kind;kind deck;apart 0 1 1;apart 0 0 1;box 0 weight 1;");
        s.due("all, hanging or not, in the hold, too", x.clear(1, -1), 144);
        x.puts(0, 138);
        s.due("all but a BAY", x.clear(1, -1), 120);
        s.due("its own KIND told apart: it counts itself, too", x.clear(0, -1), 120);
        s.says("50", "the k-th by CODE (from 0).");
        s.due("the first one", x.clear(1, 0), 0);
        s.due("the last one", x.clear(1, 119), 119);
        s.says("50", "NONE: not so many;");
        s.due("one beyond", x.clear(1, 120), -1);
        s.due("k MAX", x.clear(1, MAX), -1);
        KeptApart y = s.ship(ONE + LEVEL + "kind;kind;box 0 weight 1;");
        y.puts(0, 0);
        s.due("a full ship: how many", y.clear(1, -1), 0);
        s.due("a full ship: the first one", y.clear(1, 0), -1);
        s.says("50", "-2 (k below NONE, too).");
        none("k", k -> x.clear(0, k), -2, -3, MIN);
        none("a KIND, how many", k -> x.clear(k, -1), 2, 7, -1, MIN, MAX);
        none("a KIND, one beyond", k -> x.clear(k, 144), 2, 7, -1, MIN, MAX);
        none("clear of no SHIP", k -> nowhere.clear(0, k), -2, -1, 0);
    }
}
