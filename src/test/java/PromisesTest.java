/** Each promise by hand: ordinary inputs, the edges that the document names, and wrong inputs. 2 to 5 stand in FaultsTest, too. */
public final class PromisesTest {
    private static final Checks CHECKS = new Checks();
    /** CODE: tier and 3 times (row and 2 times bay): bay 0 has 0 .. 5, bay 1 6 .. 11, bay 2 12 .. 17; tier 2 is on deck. */
    private static final String SHIP = "ship bays 3 rows 2 hold 2 deck 1;wall 0;wall 1 door;";
    /** Two bays, two rows, one tier in the hold: bay 0 has 0, 1, bay 1 2, 3. */
    private static final String FLAT = "ship bays 2 rows 2 hold 1 deck 0;";
    /** One stack of three in the hold, one of three on deck. */
    private static final String TOWER = "ship bays 1 rows 1 hold 3 deck 3;";

    private PromisesTest() {
    }

    public static void main(String[] args) {
        newObject();
        tapeAndShip();
        tables();
        boxesAndPlaces();
        betweenAndFar();
        why();
        whyOfOneThatLies();
        nearInAndMay();
        putsAndLifts();
        opensAndNear();
        doors();
        books();
        weights();
        overAndRestows();
        load();
        loadLimits();
        greedyAndTakes();
        shifts();
        shiftsOfTwo();
        bays();
        hang();
        undo();
        pictures();
        stacksAndFree();
        loosest();
        voyage();
        clear();
        swaps();
        steady();
        fullSize();
        fullSizeLoading();
        oneTextBehindAnother();
        CHECKS.close("PromisesTest");
    }

    private static void due(String call, long got, long want) {
        CHECKS.due(call, got, want);
    }

    private static KeptApart told(String text) {
        KeptApart x = new KeptApart();
        int answer = Texts.ship(x, text);
        CHECKS.due("lines of " + text, answer, text.chars().filter(c -> c == ';').count());
        return x;
    }

    /** Promise 1, and -2 of every call without a ship. */
    private static void newObject() {
        KeptApart x = new KeptApart();
        for (int what = 0; what <= 11; what++) {
            due("count(" + what + ") of a new object", x.count(what), 0);
        }
        due("count(12)", x.count(12), -1);
        due("count(-1)", x.count(-1), -1);
        due("NONE", KeptApart.NONE, -1);
        due("TOO_LONG", KeptApart.TOO_LONG, -3);
        due("NO_SUCH", KeptApart.NO_SUCH, Long.MIN_VALUE);
        long[] all = {x.wall(0), x.level(1, 0), x.kind(0), x.apart(0, 0), x.box(0, 0), x.at(0), x.between(0, 0, 0), x.far(0, 0, 1),
            x.why(0, 0), x.nearIn(0, 0), x.may(0, -1), x.puts(0, 0), x.lifts(0), x.opens(0, 0), x.books(0, 1, 1), x.near(-1), x.nearTo(0),
            x.doors(0), x.doors(1), x.weighs(0, 0, 0), x.over(), x.restows(1), x.load(1), x.effort(1), x.greedy(), x.told(0), x.takes(),
            x.loads(), x.shifts(0, 1, 1), x.shift(0, 0), x.shift(2, 1), x.ways(1), x.span(), x.bayOf(1, 0), x.hang(0), x.clears(),
            x.tell(0), x.stack(0, 0, 0, 0), x.kindsIn(0), x.free(0), x.loosest(0), x.voyage(0), x.clear(0, -1), x.swaps(0, 1),
            x.steady(), x.label(0)};
        for (int i = 0; i < all.length; i++) {
            due("call " + i + " without a ship", all[i], -2);
        }
        due("lean(0) without a ship", x.lean(0), KeptApart.NO_SUCH);
        due("undo() without a ship", x.undo(), -1);
        due("octet(0) of a new object", x.octet(0), -1);
        due("fault(0)", x.fault(0), 0);
        due("fault(1)", x.fault(1), -1);
    }

    /** Promises 2 to 6. */
    private static void tapeAndShip() {
        KeptApart x = new KeptApart();
        due("feed", x.feed(0x73686970, 0x20626179, 0x73203120, 0x726f7773, 0x20312068), 20);
        due("feed", x.feed(0x6f6c6420, 0x31206465, 0x636b2030, 0x3b3b3b3b, 0x3b3b3b3b), 40);
        due("count(10)", x.count(10), 40);
        due("end(33)", x.end(33), 33);
        due("ship()", x.ship(), 1);
        due("count(10)", x.count(10), 0);
        due("count(0)", x.count(0), 1);
        due("ship() of an empty tape", x.ship(), -4);
        due("fault(0)", x.fault(0), 1);
        due("fault(1)", x.fault(1), 0);
        due("the ship stays", x.count(0), 1);
        x = told("ship bays 6 rows 4 hold 3 deck 2;bears 17 23;kind;kind;box 0 weight 1;box 1 weight 2;box 1 weight 3;");
        int[] want = {6, 4, 3, 2, 2, 3, 0, 17, 23, 0, 0, 0};
        for (int what = 0; what < want.length; what++) {
            due("count(" + what + ")", x.count(what), want[what]);
        }
        x.puts(1, 0);
        due("count(6)", x.count(6), 1);
        due("count(9)", x.count(9), 1);
        x.tell(5);
        due("count(11)", x.count(11), 30);
        due("count(12)", x.count(12), -1);
    }

    /** Promises 7 to 10. */
    private static void tables() {
        KeptApart x = told("ship bays 4 rows 1 hold 1 deck 0;wall 0;wall 2 door;level 1 across 3 along 4;level 4 across 1 along 2 walls 5 hatch;"
            + "kind;kind deck;kind hold;apart 1 0 4;apart 2 2 1;");
        due("wall(0)", x.wall(0), 1);
        due("wall(1)", x.wall(1), 0);
        due("wall(2)", x.wall(2), 2);
        due("wall(3), the last bay", x.wall(3), -2);
        due("wall(4)", x.wall(4), -2);
        due("wall(-1)", x.wall(-1), -2);
        due("wall(MAX)", x.wall(Integer.MAX_VALUE), -2);
        x.opens(2, 0);
        due("wall(2) shut", x.wall(2), 3);
        int[][] level = {{3, 4, 0, 0}, {1, 2, 5, 1}};
        for (int what = 0; what < 4; what++) {
            due("level(1, " + what + ")", x.level(1, what), level[0][what]);
            due("level(4, " + what + ")", x.level(4, what), level[1][what]);
            due("level(2, " + what + ") not told", x.level(2, what), -2);
        }
        due("level(1, 4)", x.level(1, 4), -2);
        due("level(1, -1)", x.level(1, -1), -2);
        due("level(0, 0)", x.level(0, 0), -2);
        due("level(5, 0)", x.level(5, 0), -2);
        due("kind(0)", x.kind(0), 0);
        due("kind(1)", x.kind(1), 1);
        due("kind(2)", x.kind(2), 2);
        due("kind(3)", x.kind(3), -2);
        due("kind(-1)", x.kind(-1), -2);
        due("apart(0, 1)", x.apart(0, 1), 4);
        due("apart(1, 0)", x.apart(1, 0), 4);
        due("apart(2, 2)", x.apart(2, 2), 1);
        due("apart(0, 0)", x.apart(0, 0), 0);
        due("apart(0, 3)", x.apart(0, 3), -2);
        due("apart(-1, 0)", x.apart(-1, 0), -2);
        due("a new text", Texts.ship(x, "ship bays 4 rows 1 hold 1 deck 0;kind;kind;kind;"), 4);
        due("no wall of the old one", x.wall(0), 0);
        due("no level of the old one", x.level(1, 0), -2);
        due("no where of the old one", x.kind(1), 0);
        due("no table of the old one", x.apart(0, 1), 0);
    }

    /** Promises 11, 12. */
    private static void boxesAndPlaces() {
        KeptApart x = told(SHIP + "kind;kind;box 1 weight 44 port 5;box 0 weight 3;");
        due("box(0, 0)", x.box(0, 0), 1);
        due("box(0, 1)", x.box(0, 1), 44);
        due("box(0, 2)", x.box(0, 2), 5);
        due("box(0, 3)", x.box(0, 3), -1);
        due("box(1, 2)", x.box(1, 2), 1);
        due("puts(0, 17)", x.puts(0, 17), 0);
        due("box(0, 3)", x.box(0, 3), 17);
        due("at(17)", x.at(17), 0);
        due("at(16)", x.at(16), -1);
        due("at(18)", x.at(18), -2);
        due("at(-1)", x.at(-1), -2);
        due("box(0, 4)", x.box(0, 4), -2);
        due("box(0, -1)", x.box(0, -1), -2);
        due("box(2, 0)", x.box(2, 0), -2);
        due("box(-1, 0)", x.box(-1, 0), -2);
        due("box(24, 0)", x.box(24, 0), -2);
    }

    /** Promises 13, 14. */
    private static void betweenAndFar() {
        KeptApart x = told(SHIP + "level 1 across 2 along 2;level 2 across 9 along 9 walls 2;level 3 across 9 along 9 hatch;"
            + "level 4 across 1 along 9 walls 1;");
        due("between(0, 17, 0)", x.between(0, 17, 0), 1);
        due("between(17, 0, 1)", x.between(17, 0, 1), 2);
        due("between(0, 17, 2), a door is open", x.between(0, 17, 2), 1);
        due("between(6, 12, 2)", x.between(6, 12, 2), 0);
        due("between(6, 0, 2)", x.between(6, 0, 2), 1);
        due("between(0, 0, 2)", x.between(0, 0, 2), 0);
        due("between(1, 2, 3)", x.between(1, 2, 3), 1);
        due("between(0, 1, 3)", x.between(0, 1, 3), 0);
        due("between(2, 17, 3)", x.between(2, 17, 3), 0);
        due("between(0, 0, 4)", x.between(0, 0, 4), -2);
        due("between(0, 0, -1)", x.between(0, 0, -1), -2);
        due("between(18, 0, 0)", x.between(18, 0, 0), -2);
        due("between(0, -1, 0)", x.between(0, -1, 0), -2);
        due("far(0, 12, 1) along", x.far(0, 12, 1), 1);
        due("far(0, 6, 1)", x.far(0, 6, 1), 0);
        due("far(0, 3, 1)", x.far(0, 3, 1), 0);
        due("far(0, 3, 4) across", x.far(0, 3, 4), 1);
        due("far(0, 12, 2) one wall", x.far(0, 12, 2), 0);
        due("far(0, 2, 3) hatch", x.far(0, 2, 3), 1);
        due("far(2, 0, 3) hatch", x.far(2, 0, 3), 1);
        due("far(0, 1, 3)", x.far(0, 1, 3), 0);
        due("far(0, 2, 2) no hatch", x.far(0, 2, 2), 0);
        due("far(0, 6, 4) wall", x.far(0, 6, 4), 1);
        due("far(6, 12, 4) open door", x.far(6, 12, 4), 0);
        x.opens(1, 0);
        due("between(0, 17, 2) both shut", x.between(0, 17, 2), 2);
        due("far(0, 12, 2) two walls", x.far(0, 12, 2), 1);
        due("far(6, 12, 4) shut door", x.far(6, 12, 4), 1);
        due("far(0, 0, 5)", x.far(0, 0, 5), -2);
        due("far(0, 0, 0)", x.far(0, 0, 0), -2);
        due("far(0, 18, 1)", x.far(0, 18, 1), -2);
        due("far(-1, 0, 1)", x.far(-1, 0, 1), -2);
    }

    /** Promise 15, for boxes that lie nowhere. */
    private static void why() {
        KeptApart x = told(SHIP + "bears 20 9;level 1 across 9 along 1;kind;kind deck;kind hold;apart 0 2 1;"
            + "box 0 weight 10;box 0 weight 9;box 0 weight 11;box 1 weight 10;box 2 weight 10;box 0 weight 10;box 2 weight 1;box 1 weight 9;");
        due("hangs", x.why(0, 1), 2);
        due("on deck nothing hangs over the hold", x.why(1, 2), 0);
        due("kind deck in the hold", x.why(3, 0), 3);
        due("kind hold on deck", x.why(4, 2), 3);
        due("hanging is told ahead of the kind", x.why(3, 1), 2);
        due("too heavy for the deck", x.why(0, 2), 4);
        due("just as heavy", x.why(7, 2), 0);
        due("puts(0, 0)", x.puts(0, 0), 0);
        due("a box lies there", x.why(1, 0), 1);
        due("both weigh 20", x.why(5, 1), 0);
        due("both weigh 21", x.why(2, 1), 4);
        due("near, in another row", x.why(4, 3), 6);
        due("near, and too heavy by kind first", x.why(3, 3), 3);
        due("a bay apart", x.why(4, 6), 0);
        due("lighter, but near", x.why(6, 1), 6);
        due("lighter", x.why(1, 1), 0);
        due("why(8, 0)", x.why(8, 0), -2);
        due("why(-1, 0)", x.why(-1, 0), -2);
        due("why(0, 18)", x.why(0, 18), -2);
        due("why(0, -1)", x.why(0, -1), -2);
        x = told(SHIP + "level 1 across 9 along 9;kind;kind;apart 0 1 1;box 0 weight 10;box 1 weight 11;");
        x.puts(0, 0);
        due("heavier than the one below is told ahead of near", x.why(1, 1), 5);
        due("and right above the hatch nobody is below in the stack", x.why(1, 2), 6);
    }

    /** Promise 15: where it lies it is taken for not being there; boxes on it stay. */
    private static void whyOfOneThatLies() {
        KeptApart x = told(TOWER + "bears 10 99;level 1 across 9 along 9;kind;apart 0 0 1;kind;box 0 weight 5;box 1 weight 5;box 1 weight 1;");
        x.puts(0, 0);
        due("it lies there itself", x.why(0, 0), 1);
        due("on itself it would hang", x.why(0, 1), 2);
        due("it is not near to itself", x.why(0, 3), 0);
        due("nearIn of itself", x.nearIn(0, 0), -1);
        x.puts(1, 1);
        due("the stack does not weigh it twice", x.why(0, 2), 0);
        due("another one comes on top of both", x.why(2, 2), 4);
        due("below it hangs still", x.why(1, 2), 2);
        x = told("ship bays 2 rows 1 hold 1 deck 0;level 1 across 9 along 9;kind;apart 0 0 1;box 0 weight 1;box 0 weight 1;");
        x.puts(0, 0);
        due("near to the other one", x.why(1, 1), 6);
        due("not near to itself", x.why(0, 1), 0);
    }

    /** Promises 16, 17. */
    private static void nearInAndMay() {
        KeptApart x = told(FLAT + "level 1 across 9 along 1;kind;kind;apart 0 1 1;box 1 weight 1;box 1 weight 1;box 0 weight 1;box 0 weight 9;");
        due("may(2, NONE)", x.may(2, -1), 4);
        due("may(2, 3)", x.may(2, 3), 3);
        due("may(2, 4)", x.may(2, 4), -1);
        x.puts(1, 1);
        x.puts(0, 0);
        due("nearIn(2, 0), though one lies there", x.nearIn(2, 0), 0);
        due("nearIn(2, 2)", x.nearIn(2, 2), -1);
        due("nearIn(0, 1), like kinds", x.nearIn(0, 1), -1);
        due("nearIn(4, 0)", x.nearIn(4, 0), -2);
        due("nearIn(0, 4)", x.nearIn(0, 4), -2);
        due("nearIn(0, -1)", x.nearIn(0, -1), -2);
        due("may(2, NONE)", x.may(2, -1), 2);
        due("may(2, 0)", x.may(2, 0), 2);
        due("may(2, 1)", x.may(2, 1), 3);
        due("may(2, 2)", x.may(2, 2), -1);
        due("may(2, -2)", x.may(2, -2), -2);
        due("may(4, -1)", x.may(4, -1), -2);
        due("may(2, MAX)", x.may(2, Integer.MAX_VALUE), -1);
        due("may(0, NONE), from where it lies", x.may(0, -1), 2);
        x.puts(2, 2);
        due("nearIn(2, 1)", x.nearIn(2, 1), 0);
        x.lifts(0);
        due("nearIn(2, 1), the other one", x.nearIn(2, 1), 1);
    }

    /** Promises 18, 19. */
    private static void putsAndLifts() {
        KeptApart x = told(SHIP + "kind;kind deck;box 0 weight 5;box 0 weight 4;box 0 weight 6;box 1 weight 1;");
        due("lifts(0) of one that lies nowhere", x.lifts(0), -1);
        due("puts(0, 1) hangs", x.puts(0, 1), 2);
        due("puts(0, 0)", x.puts(0, 0), 0);
        due("puts(0, 0) again", x.puts(0, 0), 1);
        due("puts(2, 1) heavier", x.puts(2, 1), 5);
        due("puts(1, 1)", x.puts(1, 1), 0);
        due("puts(0, 3) can't be lifted", x.puts(0, 3), 7);
        due("puts(0, 0) can't be lifted, ahead of 1", x.puts(0, 0), 7);
        due("lifts(0) can't be", x.lifts(0), -5);
        due("puts(3, 2) on deck", x.puts(3, 2), 0);
        due("puts(3, 3)", x.puts(3, 3), 3);
        due("the hatch is no box on it", x.lifts(1), 1);
        due("at(1)", x.at(1), -1);
        due("box(1, 3)", x.box(1, 3), -1);
        due("puts(0, 9) from where it lay", x.puts(0, 9), 0);
        due("at(0)", x.at(0), -1);
        due("at(9)", x.at(9), 0);
        due("count(6)", x.count(6), 2);
        due("count(9)", x.count(9), 5);
        due("the top tier is not below the next row", x.lifts(3), 2);
        due("puts(4, 0)", x.puts(4, 0), -2);
        due("puts(0, 18)", x.puts(0, 18), -2);
        due("puts(-1, 0)", x.puts(-1, 0), -2);
        due("puts(0, -1)", x.puts(0, -1), -2);
        due("lifts(4)", x.lifts(4), -2);
        due("lifts(-1)", x.lifts(-1), -2);
        x = told("ship bays 1 rows 2 hold 1 deck 0;kind;box 0 weight 1;box 0 weight 1;");
        x.puts(0, 0);
        x.puts(1, 1);
        due("another row's box is not on it", x.lifts(0), 0);
    }

    /** Promises 20, 22, 23. */
    private static void opensAndNear() {
        KeptApart x = told("ship bays 3 rows 1 hold 1 deck 1;wall 0 door;wall 1;level 1 across 9 along 9 walls 1;level 2 across 9 along 9 walls 2;"
            + "kind;kind;apart 0 0 1;apart 0 1 2;box 0 weight 1;box 0 weight 1;box 1 weight 1;");
        due("opens(1, 1), no door", x.opens(1, 1), -2);
        due("opens(2, 1), the last bay", x.opens(2, 1), -2);
        due("opens(-1, 1)", x.opens(-1, 1), -2);
        due("opens(0, 2)", x.opens(0, 2), -2);
        due("opens(0, -1)", x.opens(0, -1), -2);
        due("opens(0, 1) of an open one", x.opens(0, 1), 0);
        due("no act", x.count(9), 0);
        due("opens(0, 0)", x.opens(0, 0), 0);
        due("an act", x.count(9), 1);
        due("puts(0, 0)", x.puts(0, 0), 0);
        due("puts(1, 2)", x.puts(1, 2), 0);
        due("puts(2, 4)", x.puts(2, 4), 6);
        due("near(NONE)", x.near(-1), 0);
        due("opens(0, 1)", x.opens(0, 1), 1);
        due("near(0)", x.near(0), 1);
        due("near(1)", x.near(1), -1);
        due("near(-2)", x.near(-2), -2);
        due("nearTo(0)", x.nearTo(0), 1);
        due("nearTo(2), nowhere", x.nearTo(2), 0);
        due("nearTo(3)", x.nearTo(3), -2);
        due("nearTo(-1)", x.nearTo(-1), -2);
        due("opens(0, 0)", x.opens(0, 0), 0);
        x = told("ship bays 2 rows 1 hold 2 deck 2;wall 0 door;level 1 across 9 along 9 walls 1;kind;kind;apart 0 1 1;"
            + "box 0 weight 1;box 1 weight 1;box 0 weight 1;box 1 weight 1;box 0 weight 1;");
        x.opens(0, 0);
        x.puts(0, 0);
        x.puts(2, 1);
        x.puts(1, 4);
        x.puts(3, 5);
        due("opens(0, 1)", x.opens(0, 1), 4);
        int[] twos = {1, 3, 102, 203};
        for (int k = 0; k < 4; k++) {
            due("near(" + k + ")", x.near(k), twos[k]);
        }
        due("near(4)", x.near(4), -1);
        due("nearTo(3)", x.nearTo(3), 2);
        due("nearTo(4)", x.nearTo(4), 0);
        due("count(9)", x.count(9), 6);
    }

    /** Promise 24. */
    private static void doors() {
        String text = "ship bays 5 rows 1 hold 1 deck 0;wall 0 door;wall 1 door;wall 2;wall 3 door;level 1 across 9 along 9 walls 1;"
            + "kind;kind;apart 0 1 1;box 0 weight 1;box 1 weight 1;box 1 weight 1;";
        KeptApart x = told(text);
        due("doors(0), nobody lies", x.doors(0), 11);
        due("doors(1), nobody lies", x.doors(1), 11);
        x.opens(1, 0);
        x.puts(0, 0);
        x.puts(1, 2);
        due("one of both must be shut", x.doors(0), 9);
        due("the least number", x.doors(1), 9);
        due("all is as it was", x.wall(1), 3);
        due("all is as it was", x.wall(0), 2);
        x.opens(0, 0);
        due("each of both could be open", x.doors(0), 11);
        due("the least number", x.doors(1), 9);
        x.opens(0, 1);
        due("opens(1, 1)", x.opens(1, 1), 1);
        due("open ones, too", x.doors(0), 11);
        due("without any two", x.doors(1), 9);
        due("doors(2)", x.doors(2), -2);
        due("doors(-1)", x.doors(-1), -2);
        x.opens(1, 0);
        x.opens(0, 0);
        x.puts(2, 1);
        due("near(NONE)", x.near(-1), 0);
        due("one more two would be near", x.doors(0), 10);
        due("doors(1)", x.doors(1), 10);
        x = told("ship bays 3 rows 1 hold 1 deck 0;wall 0 door;wall 1 door;level 1 across 9 along 9 walls 2;kind;kind;apart 0 1 1;box 0 weight 1;box 1 weight 1;");
        x.opens(0, 0);
        x.opens(1, 0);
        x.puts(0, 0);
        x.puts(1, 2);
        x.opens(0, 1);
        due("doors(0): a two that is near already", x.doors(0), 3);
        due("doors(1): none open", x.doors(1), 0);
        x = told("ship bays 2 rows 1 hold 1 deck 0;kind;");
        due("no doors: doors(0)", x.doors(0), 0);
        due("no doors: doors(1)", x.doors(1), 0);
        x = told("ship bays 3 rows 1 hold 1 deck 0;wall 0 door;wall 1;level 1 across 9 along 9 walls 1;level 2 across 9 along 9 walls 2;"
            + "kind;kind;apart 0 0 2;apart 0 1 1;box 0 weight 1;box 0 weight 1;");
        due("with a door shut", x.opens(0, 0), 0);
        x.puts(0, 0);
        due("puts(1, 2)", x.puts(1, 2), 0);
        x.opens(0, 1);
        due("doors(1)", x.doors(1), 0);
    }

    /** Promise 21. */
    private static void books() {
        KeptApart x = told(FLAT + "kind;kind;box 0 weight 1;");
        due("books(1, 99, 5)", x.books(1, 99, 5), 1);
        due("box(1, 0)", x.box(1, 0), 1);
        due("box(1, 1)", x.box(1, 1), 99);
        due("box(1, 2)", x.box(1, 2), 5);
        due("box(1, 3)", x.box(1, 3), -1);
        due("books(2, 1, 1)", x.books(2, 1, 1), -2);
        due("books(-1, 1, 1)", x.books(-1, 1, 1), -2);
        due("books(0, 0, 1)", x.books(0, 0, 1), -2);
        due("books(0, 100, 1)", x.books(0, 100, 1), -2);
        due("books(0, 1, 0)", x.books(0, 1, 0), -2);
        due("books(0, 1, 6)", x.books(0, 1, 6), -2);
        for (int b = 2; b < 24; b++) {
            due("books number " + b, x.books(0, 1, 1), b);
        }
        due("a 25th", x.books(0, 1, 1), -5);
        due("-2 ahead of -5", x.books(0, 1, 6), -2);
        due("count(5)", x.count(5), 24);
        x.puts(23, 0);
        x.undo();
        due("undo()", x.undo(), 10);
        due("count(5)", x.count(5), 23);
        due("box(23, 0)", x.box(23, 0), -2);
        due("books again", x.books(1, 7, 2), 23);
        due("lies nowhere", x.box(23, 3), -1);
        due("its weight", x.box(23, 1), 7);
    }

    /** Promises 25, 26. */
    private static void weights() {
        KeptApart x = told(SHIP + "kind;box 0 weight 50;box 0 weight 7;box 0 weight 3;box 0 weight 99;");
        due("lean(3) of an empty ship", x.lean(3), 0);
        x.puts(0, 0);
        x.puts(1, 1);
        x.puts(2, 17);
        due("weighs(0, 0, 0)", x.weighs(0, 0, 0), 57);
        due("weighs(0, 0, 1)", x.weighs(0, 0, 1), 0);
        due("weighs(2, 1, 1)", x.weighs(2, 1, 1), 3);
        due("weighs(2, 1, 0)", x.weighs(2, 1, 0), 0);
        due("weighs(3, 0, 0)", x.weighs(3, 0, 0), -2);
        due("weighs(0, 2, 0)", x.weighs(0, 2, 0), -2);
        due("weighs(0, 0, 2)", x.weighs(0, 0, 2), -2);
        due("weighs(-1, 0, 0)", x.weighs(-1, 0, 0), -2);
        due("weighs(0, -1, 0)", x.weighs(0, -1, 0), -2);
        due("weighs(0, 0, -1)", x.weighs(0, 0, -1), -2);
        due("lean(0)", x.lean(0), -57 * 2 + 3 * 2);
        due("lean(1)", x.lean(1), -57 + 3);
        due("lean(2)", x.lean(2), 7 + 6);
        due("lean(3)", x.lean(3), 60);
        due("lean(4)", x.lean(4), Long.MIN_VALUE);
        due("lean(-1)", x.lean(-1), Long.MIN_VALUE);
        x = told("ship bays 4 rows 1 hold 0 deck 1;kind;box 0 weight 5;box 0 weight 1;");
        x.puts(0, 1);
        due("lean(0) of four bays", x.lean(0), -5);
        due("lean(1) of one row", x.lean(1), 0);
        x.puts(1, 3);
        due("lean(0)", x.lean(0), -2);
        due("no hold: weighs(0, 0, 0)", x.weighs(0, 0, 0), 0);
        due("weighs(1, 0, 1)", x.weighs(1, 0, 1), 5);
    }

    /** Promises 27, 28. */
    private static void overAndRestows() {
        KeptApart x = told(TOWER + "kind;box 0 weight 9 port 2;box 0 weight 9 port 1;box 0 weight 9 port 3;"
            + "box 0 weight 9 port 4;box 0 weight 9 port 4;box 0 weight 9 port 5;");
        due("over() of none", x.over(), 0);
        for (int b = 0; b < 6; b++) {
            due("puts " + b, x.puts(b, b), 0);
        }
        // in the hold 2, 1, 3: 3 over 2, 3 over 1; on deck 4, 4, 5: 5 over both
        due("over()", x.over(), 4);
        due("restows(1)", x.restows(1), 1);
        due("restows(2)", x.restows(2), 2);
        due("restows(3)", x.restows(3), 0);
        due("restows(4): one, though above two", x.restows(4), 1);
        due("restows(5)", x.restows(5), 0);
        x.clears();
        x.puts(1, 0);
        x.puts(0, 1);
        due("over(), the lesser box above", x.over(), 1);
        due("restows(1), the lesser box above", x.restows(1), 1);
        due("restows(0)", x.restows(0), -2);
        due("restows(6)", x.restows(6), -2);
    }

    /** Promises 29, 30, 32. */
    private static void load() {
        // greedily the light one takes the bottom, and the heavy one finds no place
        KeptApart x = told("ship bays 1 rows 1 hold 2 deck 0;kind;box 0 weight 1;box 0 weight 2;");
        due("told(0) ahead of any", x.told(0), -6);
        due("greedy()", x.greedy(), 1);
        due("told(0)", x.told(0), 0);
        due("told(1)", x.told(1), -1);
        // 0 to 0, 1 rejected; then 0 rejected is as many: left
        due("effort(9)", x.effort(9), 1);
        due("load(1)", x.load(1), 1);
        due("told(0), the first one of like ones", x.told(0), 0);
        due("told(1)", x.told(1), -1);
        due("told(2)", x.told(2), -2);
        due("told(-1)", x.told(-1), -2);
        // kind 1 may lie in bay 1 only if kind 0 does not: the best one moves box 0 on
        x = told("ship bays 2 rows 1 hold 1 deck 1;kind;kind hold;kind hold;box 0 weight 1;box 1 weight 1;box 2 weight 1;");
        due("greedy()", x.greedy(), 1);
        due("load(9)", x.load(9), 0);
        due("told(0)", x.told(0), 1);
        due("told(1)", x.told(1), 0);
        due("told(2)", x.told(2), 2);
        // 0>0 1>2 (2 rejected: best 1) back: 1 has no more, 1 rejected is left; 0>1 1>0 2>2: none rejected, nothing more is put
        due("effort(9)", x.effort(9), 5);
        due("effort(5)", x.effort(5), 5);
        due("effort(4)", x.effort(4), -3);
        due("nothing lies", x.count(6), 0);
        due("no act", x.count(9), 0);
        x.puts(1, 2);
        due("load of those that lie nowhere", x.load(9), 0);
        due("told(1), not of it", x.told(1), -6);
        due("told(0)", x.told(0), 1);
        due("told(2)", x.told(2), 0);
        // 0>0 2 rejected (1), 0>1 2>0
        due("effort(9)", x.effort(9), 3);
        due("books(0, 1, 1)", x.books(0, 1, 1), 3);
        due("told(3), booked later", x.told(3), -6);
        due("takes()", x.takes(), 2);
        due("loads()", x.loads(), 1);
        due("load of none", x.load(1), 0);
        due("told(0), not of it", x.told(0), -6);
        due("takes() of none", x.takes(), 0);
        due("effort of none", x.effort(1), 0);
    }

    /** Promises 29, 30: limits; a row is left as soon as it can't be better, even within one box. */
    private static void loadLimits() {
        KeptApart x = told(FLAT + "kind;box 0 weight 1;box 0 weight 1;");
        due("the first row is the best", x.effort(50000), 2);
        due("load(2)", x.load(2), 0);
        due("load(1)", x.load(1), -3);
        due("what was told stays", x.told(1), 1);
        due("load(0)", x.load(0), -2);
        due("load(-1)", x.load(-1), -2);
        due("load(50000)", x.load(50000), 0);
        due("load(50001)", x.load(50001), -2);
        due("effort(0)", x.effort(0), -2);
        due("effort(50001)", x.effort(50001), -2);
        due("effort(1)", x.effort(1), -3);
        due("told stays behind effort", x.told(0), 0);
        // three boxes that all are near to one another, two places: the first rejects two, no other rejects less
        x = told("ship bays 2 rows 1 hold 1 deck 0;level 1 across 9 along 9;kind;apart 0 0 1;box 0 weight 1;box 0 weight 1;box 0 weight 1;");
        due("load(9)", x.load(9), 2);
        // 0>0 (best 2), 0>1, then 0 rejected: 1>0, 1>1, then 1 rejected is left
        due("effort(9)", x.effort(9), 4);
        due("told(0)", x.told(0), 0);
        due("told(1)", x.told(1), -1);
    }

    /** Promises 31 to 34. */
    private static void greedyAndTakes() {
        KeptApart x = told(FLAT + "level 1 across 9 along 1;kind;kind;apart 0 1 1;box 0 weight 1;box 1 weight 1;box 0 weight 1;box 1 weight 1;box 0 weight 1;");
        due("takes() ahead of any", x.takes(), -6);
        due("greedy()", x.greedy(), 1);
        int[] places = {0, 2, 1, 3, -1};
        for (int b = 0; b < 5; b++) {
            due("told(" + b + ")", x.told(b), places[b]);
        }
        due("nothing lies", x.count(6), 0);
        x.puts(4, 1);
        due("takes(), but for one whose place is taken", x.takes(), 3);
        due("box(0, 3)", x.box(0, 3), 0);
        due("box(2, 3)", x.box(2, 3), -1);
        due("one act", x.count(9), 2);
        due("takes() again", x.takes(), 0);
        due("no act", x.count(9), 2);
        due("still told", x.told(4), -1);
        due("loads() of one that has no place", x.loads(), 0);
        due("no act", x.count(9), 2);
        due("undo()", x.undo(), 1);
        due("count(6)", x.count(6), 1);
        due("loads()", x.loads(), 3);
        due("count(9)", x.count(9), 2);
        due("box(0, 3)", x.box(0, 3), 0);
        due("told by greedy() still", x.told(2), 1);
        due("greedy() of one", x.greedy(), 1);
        due("told(2)", x.told(2), -1);
        due("told(0)", x.told(0), -6);
        // one that lies elsewhere is not taken
        x = told(FLAT + "kind;box 0 weight 1;");
        x.greedy();
        x.puts(0, 3);
        due("takes()", x.takes(), 0);
        due("box(0, 3)", x.box(0, 3), 3);
        // a booking undone is not taken
        x = told(FLAT + "kind;");
        x.books(0, 1, 1);
        x.load(9);
        x.undo();
        due("told(0)", x.told(0), -2);
        due("takes()", x.takes(), 0);
    }

    /** Promises 35, 36. */
    private static void shifts() {
        KeptApart x = told(FLAT + "level 1 across 9 along 2;kind;kind;apart 0 1 1;box 0 weight 5;box 0 weight 5;");
        due("shift(0, 0) ahead of any", x.shift(0, 0), -1);
        due("shift(2, 1) ahead of any", x.shift(2, 1), -1);
        due("shifts of an empty ship", x.shifts(1, 1, 1), 0);
        due("shift(2, 1)", x.shift(2, 1), 0);
        due("shift(0, 0)", x.shift(0, 0), -1);
        x.puts(0, 0);
        due("no place, whatever is shifted", x.shifts(1, 1, 99), -1);
        due("nothing is shown", x.shift(2, 1), -1);
        x = told(FLAT + "level 1 across 9 along 1;kind;kind;apart 0 1 1;box 0 weight 5;box 0 weight 5;");
        x.puts(0, 0);
        x.puts(1, 2);
        due("two puts are one too many", x.shifts(1, 1, 1), -3);
        due("shifts(1, 1, 2)", x.shifts(1, 1, 2), 1);
        due("shift(0, 0)", x.shift(0, 0), 0);
        due("shift(0, 1)", x.shift(0, 1), 3);
        due("shift(1, 0)", x.shift(1, 0), -1);
        due("shift(1, 1)", x.shift(1, 1), -1);
        due("shift(2, 1)", x.shift(2, 1), 0);
        due("shift(2, 0)", x.shift(2, 0), -2);
        due("shift(3, 1)", x.shift(3, 1), -2);
        due("shift(-1, 0)", x.shift(-1, 0), -2);
        due("shift(0, 2)", x.shift(0, 2), -2);
        due("shift(0, -1)", x.shift(0, -1), -2);
        due("too long again", x.shifts(1, 1, 1), -3);
        due("what was shown stays", x.shift(0, 1), 3);
        due("nothing was moved", x.box(0, 3), 0);
        due("no act", x.count(9), 2);
        due("no booking", x.count(5), 2);
        due("shifts(2, 1, 1)", x.shifts(2, 1, 1), -2);
        due("shifts(-1, 1, 1)", x.shifts(-1, 1, 1), -2);
        due("shifts(0, 0, 1)", x.shifts(0, 0, 1), -2);
        due("shifts(0, 99, 1)", x.shifts(0, 99, 1), 0);
        due("shifts(0, 100, 1)", x.shifts(0, 100, 1), -2);
        due("shifts(0, 1, 0)", x.shifts(0, 1, 0), -2);
        due("shifts(0, 1, 50001)", x.shifts(0, 1, 50001), -2);
        // one below another can't be lifted; the upper one has nowhere else to go
        x = told("ship bays 1 rows 1 hold 2 deck 0;kind;box 0 weight 5;box 0 weight 5;");
        x.puts(0, 0);
        x.puts(1, 1);
        due("a full ship", x.shifts(0, 1, 9), -1);
        // a heavy late one needs the bottom: the light one is shifted onto another
        x = told("ship bays 2 rows 1 hold 2 deck 0;kind;box 0 weight 2;box 0 weight 3;");
        x.puts(0, 0);
        x.puts(1, 2);
        due("a heavy late one", x.shifts(0, 9, 9), 1);
        due("shift(0, 0)", x.shift(0, 0), 0);
        due("shift(0, 1)", x.shift(0, 1), 3);
        due("shift(2, 1)", x.shift(2, 1), 0);
    }

    /** Promises 35, 36, with two shifts; puts of one shift count ahead of those of two. */
    private static void shiftsOfTwo() {
        // three bays of one stack of two; kind 1 must be two bays from kind 0
        KeptApart x = told("ship bays 3 rows 1 hold 2 deck 0;kind;box 0 weight 1;box 0 weight 2;box 0 weight 3;box 0 weight 4;");
        x.puts(1, 0);
        x.puts(0, 1);
        x.puts(2, 2);
        x.puts(3, 4);
        // stacks 2 1 | 3 | 4, a late 9 needs a bottom: box 2 onto 4 frees bay 1
        due("one shift", x.shifts(0, 9, 99), 1);
        due("shift(0, 0)", x.shift(0, 0), 2);
        due("shift(0, 1)", x.shift(0, 1), 5);
        due("shift(2, 1)", x.shift(2, 1), 2);
        x = told("ship bays 3 rows 1 hold 2 deck 0;kind;box 0 weight 1;box 0 weight 2;box 0 weight 3;box 0 weight 4;bears 5 5;");
        x.puts(1, 0);
        x.puts(0, 1);
        x.puts(2, 2);
        x.puts(3, 4);
        // stacks 2 1 | 3 | 4 of 5 at most: box 0 onto 4 (or 3), box 1 onto 3: bay 0 is free
        // of one shift: 0>3, 0>5 and no more: 1 can't be lifted, 2 has 2 + 1 + .. above, 3 onto 4 is 7; of two: 0>3 (1 has 3 + 1 + 2 there, 6 with 4),
        // then 0>5, 1>3
        due("two shifts", x.shifts(0, 5, 99), 2);
        due("shift(0, 0)", x.shift(0, 0), 0);
        due("shift(0, 1)", x.shift(0, 1), 5);
        due("shift(1, 0)", x.shift(1, 0), 1);
        due("shift(1, 1)", x.shift(1, 1), 3);
        due("shift(2, 1)", x.shift(2, 1), 0);
        due("five puts", x.shifts(0, 5, 5), 2);
        due("four are too few", x.shifts(0, 5, 4), -3);
        due("all lie where they lay", x.stack(0, 0, 0, 1), 0);
        // nothing shown is left of the two behind one that fails
        x.puts(0, 5);
        x.books(0, 5, 1);
        due("puts(4, ..)", x.puts(1, 3), 0);
        due("puts(4, 0)", x.puts(4, 0), 0);
        // stacks 5 | 3 2 | 4 1, all bear 5: 0 and 1 can go nowhere, nor can 4
        due("a full ship", x.shifts(0, 1, 9), -1);
        for (int i = 0; i < 2; i++) {
            due("shift(" + i + ", 0)", x.shift(i, 0), -1);
            due("shift(" + i + ", 1)", x.shift(i, 1), -1);
        }
        // to the least place, and a limit that is just reached where there is no way
        x = told("ship bays 3 rows 1 hold 1 deck 0;level 1 across 9 along 2;kind;kind;apart 0 1 1;box 0 weight 1;");
        x.puts(0, 1);
        due("to place 0", x.shifts(1, 1, 9), 1);
        due("shift(0, 1)", x.shift(0, 1), 0);
        due("shift(2, 1)", x.shift(2, 1), 2);
        x = told("ship bays 3 rows 1 hold 1 deck 0;level 1 across 9 along 9;kind;kind;apart 0 1 1;box 0 weight 1;");
        x.puts(0, 1);
        // 0>0, 0>2 alone, and both again ahead of a second one that there is not
        due("four puts", x.shifts(1, 1, 4), -1);
        due("three are too few", x.shifts(1, 1, 3), -3);
    }

    /** Promises 37 to 39. */
    private static void bays() {
        KeptApart x = told(FLAT);
        due("ways(1) without kinds", x.ways(1), 1);
        due("ways(8) without kinds", x.ways(8), 1);
        due("span() without kinds", x.span(), 1);
        due("bayOf(1, 0) without kinds", x.bayOf(1, 0), -2);
        due("ways(0)", x.ways(0), -2);
        due("ways(9)", x.ways(9), -2);
        x = told(FLAT + "level 1 across 1 along 2;level 2 across 1 along 1;kind;kind;kind;apart 0 0 1;apart 0 1 1;apart 1 2 2;");
        // 3 bays: 0 and 1 in 0, 2 or 2, 0; kind 2 in one of the two others
        due("ways(3)", x.ways(3), 4);
        due("ways(2)", x.ways(2), 0);
        due("span()", x.span(), 3);
        due("bayOf(3, 0)", x.bayOf(3, 0), 0);
        due("bayOf(3, 1)", x.bayOf(3, 1), 2);
        due("bayOf(3, 2)", x.bayOf(3, 2), 0);
        due("bayOf(2, 0)", x.bayOf(2, 0), -1);
        due("bayOf(3, 3)", x.bayOf(3, 3), -2);
        due("bayOf(3, -1)", x.bayOf(3, -1), -2);
        due("bayOf(0, 0)", x.bayOf(0, 0), -2);
        due("bayOf(9, 0)", x.bayOf(9, 0), -2);
        x = told(FLAT + "level 1 across 1 along 9;kind;kind;apart 0 1 1;");
        due("ways(8)", x.ways(8), 0);
        due("span()", x.span(), -1);
        due("bayOf(8, 0)", x.bayOf(8, 0), -1);
        x = told(FLAT + "kind;kind;kind;kind;kind;kind;kind;");
        due("ways(8)", x.ways(8), 2097152);
        due("span()", x.span(), 1);
        due("bayOf(8, 6)", x.bayOf(8, 6), 0);
        // kind 0 has to go on for the sake of kind 2
        x = told(FLAT + "level 1 across 1 along 3;kind;kind;kind;apart 0 1 1;apart 1 2 1;apart 2 0 1;");
        due("ways(7)", x.ways(7), 6);
        due("ways(6)", x.ways(6), 0);
        due("ways(8)", x.ways(8), 24);
        due("bayOf(7, 1)", x.bayOf(7, 1), 3);
        due("bayOf(7, 2)", x.bayOf(7, 2), 6);
        x = told(FLAT + "level 1 across 1 along 2;level 2 across 1 along 4;kind;kind;kind;apart 0 1 1;apart 0 2 2;apart 1 2 2;");
        due("bayOf(7, 0)", x.bayOf(7, 0), 0);
        due("bayOf(7, 1)", x.bayOf(7, 1), 2);
        due("bayOf(7, 2)", x.bayOf(7, 2), 6);
        due("span()", x.span(), 7);
        due("ways(7)", x.ways(7), 4);
    }

    /** Promise 40. */
    private static void hang() {
        KeptApart x = told(SHIP + "kind;box 0 weight 9;box 0 weight 9;box 0 weight 9;box 0 weight 9;box 0 weight 9;box 0 weight 9;box 0 weight 9;");
        due("hang(0) of nobody", x.hang(0), -1);
        x.puts(0, 6);
        due("alone", x.hang(6), 1);
        x.puts(1, 7);
        due("a tier apart", x.hang(6), 2);
        x.puts(2, 8);
        due("the hatch is between", x.hang(7), 2);
        due("on deck", x.hang(8), 1);
        x.puts(3, 12);
        due("an open door is between", x.hang(12), 3);
        x.puts(4, 0);
        due("a wall is between", x.hang(6), 3);
        x.puts(5, 15);
        due("a row apart", x.hang(7), 4);
        x.opens(1, 0);
        due("a shut door is between", x.hang(6), 2);
        due("behind it", x.hang(15), 2);
        x.opens(1, 1);
        x.puts(6, 9);
        due("round", x.hang(9), 5);
        due("a row and a bay apart is not beside", x.hang(0), 1);
        due("hang(18)", x.hang(18), -2);
        due("hang(-1)", x.hang(-1), -2);
    }

    /** Promises 41, 42. */
    private static void undo() {
        KeptApart x = told(SHIP + "kind;box 0 weight 9;box 0 weight 8;box 0 weight 7;");
        due("clears() of none", x.clears(), 0);
        due("no act", x.count(9), 0);
        due("undo()", x.undo(), -1);
        x.puts(0, 0);
        x.puts(1, 1);
        due("clears()", x.clears(), 2);
        due("count(6)", x.count(6), 0);
        due("undo()", x.undo(), 2);
        due("box(1, 3)", x.box(1, 3), 1);
        due("at(0)", x.at(0), 0);
        x.swaps(0, 1);
        due("a refused act is none", x.count(9), 2);
        x.opens(1, 0);
        due("undo() of a door", x.undo(), 2);
        due("wall(1)", x.wall(1), 2);
        due("between", x.between(6, 12, 2), 0);
        x.puts(1, 6);
        due("undo() of a put from a place", x.undo(), 2);
        due("box(1, 3)", x.box(1, 3), 1);
        due("at(6)", x.at(6), -1);
        x.lifts(1);
        due("undo() of a lift", x.undo(), 2);
        due("box(1, 3)", x.box(1, 3), 1);
        x.books(0, 1, 1);
        due("undo() of a booking", x.undo(), 2);
        due("count(5)", x.count(5), 3);
        due("loads()", x.loads(), 1);
        due("undo() of loads()", x.undo(), 2);
        due("box(2, 3)", x.box(2, 3), -1);
        x.greedy();
        x.takes();
        due("undo() of takes()", x.undo(), 2);
        due("box(2, 3)", x.box(2, 3), -1);
        for (int i = 0; i < 8; i++) {
            x.opens(1, i % 2);
        }
        due("eight more", x.count(9), 10);
        x.opens(1, 0);
        x.opens(1, 1);
        due("twelve", x.count(9), 12);
        x.opens(1, 0);
        due("no more than twelve", x.count(9), 12);
        for (int left = 11; left >= 0; left--) {
            due("undo()", x.undo(), left);
        }
        due("undo()", x.undo(), -1);
        due("the first act can't be undone", x.box(0, 3), 0);
        due("the second one is", x.box(1, 3), -1);
        due("what does nothing drops none of twelve", fullHistory(), 0);
    }

    /** 0, if calls that are refused or put nothing leave the twelve latest acts alone. */
    private static int fullHistory() {
        KeptApart x = told("ship bays 2 rows 1 hold 1 deck 0;wall 0 door;kind;box 0 weight 1;box 0 weight 2;");
        x.loads();
        x.greedy();
        for (int i = 0; i < 11; i++) {
            x.opens(0, i % 2);
        }
        x.loads();
        x.takes();
        x.swaps(0, 0);
        x.puts(0, 0);
        for (int left = 11; left >= 0; left--) {
            if (x.undo() != left) {
                return 1;
            }
        }
        return x.count(6);
    }

    /** Promises 43, 44, 53. */
    private static void pictures() {
        KeptApart x = told(SHIP + "kind;kind;box 0 weight 9;box 0 weight 10 port 3;box 1 weight 8 port 5;");
        x.puts(0, 0);
        x.puts(2, 1);
        x.puts(1, 5);
        due("tell(0)", x.tell(0), 12);
        CHECKS.due("the picture", Texts.out(x), ".b\n==\nc.\na.\n");
        due("octet(11)", x.octet(11), 10);
        due("octet(12)", x.octet(12), -1);
        due("octet(-1)", x.octet(-1), -1);
        due("tell(3)", x.tell(3), -2);
        due("tell(-1)", x.tell(-1), -2);
        due("OUT stays", x.count(11), 12);
        due("label(1)", x.label(1), 10);
        CHECKS.due("the label", Texts.out(x), "b 0 10 3 5");
        due("label(3)", x.label(3), -2);
        due("label(-1)", x.label(-1), -2);
        CHECKS.due("OUT stays", Texts.out(x), "b 0 10 3 5");
        x.lifts(2);
        due("label(2)", x.label(2), 9);
        CHECKS.due("the label", Texts.out(x), "c 1 8 5 -");
        due("a new text", Texts.ship(x, "ship bays 1 rows 3 hold 0 deck 2;kind;box 0 weight 99;"), 3);
        CHECKS.due("OUT stays", Texts.out(x), "c 1 8 5 -");
        due("tell(0)", x.tell(0), 8);
        CHECKS.due("no hold, no line", Texts.out(x), "...\n...\n");
        due("a new text", Texts.ship(x, "ship bays 6 rows 4 hold 3 deck 3;kind;" + "box 0 weight 99;".repeat(24)), 26);
        x.loads();
        x.puts(23, 141);
        due("tell(5)", x.tell(5), 35);
        CHECKS.due("the picture", Texts.out(x), "....\n....\n...x\n====\n....\n....\n....\n");
        due("label(23)", x.label(23), 12);
        CHECKS.due("the label", Texts.out(x), "x 0 99 1 141");
        x = told("ship bays 1 rows 1 hold 1 deck 0;");
        due("no deck, no line", x.tell(0), 2);
        CHECKS.due("the picture", Texts.out(x), ".\n");
    }

    /** Promises 45 to 47. */
    private static void stacksAndFree() {
        KeptApart x = told(SHIP + "kind;kind;kind;box 0 weight 9;box 2 weight 9;box 1 weight 8;");
        due("free(0)", x.free(0), 18);
        due("free(1)", x.free(1), 12);
        due("kindsIn(0)", x.kindsIn(0), 0);
        x.puts(1, 3);
        x.puts(0, 4);
        x.puts(2, 5);
        due("stack(0, 1, 0, 0)", x.stack(0, 1, 0, 0), 1);
        due("stack(0, 1, 0, 1)", x.stack(0, 1, 0, 1), 0);
        due("stack(0, 1, 0, 2)", x.stack(0, 1, 0, 2), -1);
        due("stack(0, 1, 1, 0)", x.stack(0, 1, 1, 0), 2);
        due("stack(0, 0, 0, 0)", x.stack(0, 0, 0, 0), -1);
        due("stack(0, 0, 0, MAX)", x.stack(0, 0, 0, Integer.MAX_VALUE), -1);
        due("stack(0, 0, 0, -1)", x.stack(0, 0, 0, -1), -2);
        due("stack(3, 0, 0, 0)", x.stack(3, 0, 0, 0), -2);
        due("stack(0, 2, 0, 0)", x.stack(0, 2, 0, 0), -2);
        due("stack(0, 0, 2, 0)", x.stack(0, 0, 2, 0), -2);
        due("stack(-1, 0, 0, 0)", x.stack(-1, 0, 0, 0), -2);
        due("kindsIn(0)", x.kindsIn(0), 7);
        due("kindsIn(1)", x.kindsIn(1), 0);
        due("kindsIn(3)", x.kindsIn(3), -2);
        due("kindsIn(-1)", x.kindsIn(-1), -2);
        due("free(0)", x.free(0), 15);
        due("free(1)", x.free(1), 10);
        x.lifts(0);
        due("free(1): one tier up", x.free(1), 11);
        due("kindsIn(0)", x.kindsIn(0), 6);
        due("free(2)", x.free(2), -2);
        due("free(-1)", x.free(-1), -2);
    }

    /** Promise 48. */
    private static void loosest() {
        KeptApart x = told("ship bays 5 rows 1 hold 1 deck 0;level 1 across 9 along 1;kind;kind;kind;apart 0 1 1;box 0 weight 1;box 1 weight 1;box 1 weight 1;box 2 weight 1;");
        due("nobody lies: as if 99, the least", x.loosest(0), 0);
        x.puts(1, 1);
        due("the most from 1", x.loosest(0), 4);
        due("like kinds do not count", x.loosest(2), 0);
        x.puts(2, 4);
        due("one from both: 0, 2 or 3, the least", x.loosest(0), 0);
        x.puts(0, 0);
        due("from where it lies", x.loosest(0), 2);
        due("another kind", x.loosest(3), 2);
        due("far from box 0, too", x.loosest(1), 3);
        due("loosest(4)", x.loosest(4), -2);
        due("loosest(-1)", x.loosest(-1), -2);
        x = told("ship bays 1 rows 1 hold 1 deck 0;kind;box 0 weight 1;box 0 weight 1;");
        x.puts(0, 0);
        due("no place", x.loosest(1), -1);
    }

    /** Promise 49. */
    private static void voyage() {
        KeptApart x = told(TOWER + "kind;box 0 weight 9 port 1;box 0 weight 9 port 3;box 0 weight 9 port 2;"
            + "box 0 weight 9 port 3;box 0 weight 9 port 5;box 0 weight 9 port 4;");
        due("voyage(0) of none", x.voyage(0), 0);
        due("voyage(1) of none", x.voyage(1), -1);
        for (int b = 0; b < 6; b++) {
            x.puts(b, b);
        }
        // hold 1 3 2: in 1 two come back: 3 2; in 2 none; deck 3 5 4: in 3 two: 5 4; in 4 none
        due("voyage(0)", x.voyage(0), 4);
        due("voyage(1): 1 and 3, the least", x.voyage(1), 1);
        due("all lie", x.count(6), 6);
        due("voyage(2)", x.voyage(2), -2);
        due("voyage(-1)", x.voyage(-1), -2);
        x = told(TOWER + "kind;box 0 weight 9 port 2;box 0 weight 9 port 2;box 0 weight 9 port 5;box 0 weight 9 port 3;box 0 weight 9 port 2;box 0 weight 9 port 4;");
        for (int b = 0; b < 6; b++) {
            x.puts(b, b);
        }
        // hold 2 2 5: one in 2; deck 3 2 4: one in 2 (4), then 3 4: one in 3
        due("voyage(0)", x.voyage(0), 3);
        due("voyage(1)", x.voyage(1), 2);
        x = told(TOWER + "kind;box 0 weight 9 port 1;box 0 weight 9 port 2;box 0 weight 9 port 3;");
        for (int b = 0; b < 3; b++) {
            x.puts(b, b);
        }
        // two come back in 1, one of them again in 2
        due("voyage(0)", x.voyage(0), 3);
        due("voyage(1)", x.voyage(1), 1);
    }

    /** Promise 50. */
    private static void clear() {
        KeptApart x = told(SHIP + "level 1 across 9 along 1;kind;kind;apart 0 1 1;apart 1 1 1;box 0 weight 1;box 1 weight 1;");
        due("clear(1, NONE)", x.clear(1, -1), 18);
        x.puts(0, 6);
        due("clear(1, NONE): two bays", x.clear(1, -1), 12);
        due("clear(1, 0)", x.clear(1, 0), 0);
        due("clear(1, 6)", x.clear(1, 6), 12);
        due("clear(1, 11)", x.clear(1, 11), 17);
        due("clear(1, 12)", x.clear(1, 12), -1);
        due("clear(0, NONE): hanging ones, too", x.clear(0, -1), 17);
        x.puts(1, 0);
        due("clear(1, NONE): of its own kind", x.clear(1, -1), 6);
        due("clear(1, -2)", x.clear(1, -2), -2);
        due("clear(2, -1)", x.clear(2, -1), -2);
        due("clear(-1, -1)", x.clear(-1, -1), -2);
    }

    /** Promise 51. */
    private static void swaps() {
        KeptApart x = told(SHIP + "bears 20 9;kind;kind hold;box 0 weight 9;box 1 weight 4;box 0 weight 3;box 0 weight 12;box 0 weight 2;");
        x.puts(0, 0);
        x.puts(1, 6);
        due("swaps(0, 4), one lies nowhere", x.swaps(0, 4), -5);
        due("swaps(0, 0)", x.swaps(0, 0), -2);
        due("swaps(0, 5)", x.swaps(0, 5), -2);
        due("swaps(-1, 0)", x.swaps(-1, 0), -2);
        due("swaps(4, 4), -2 ahead of -5", x.swaps(4, 4), -2);
        due("swaps(0, 1)", x.swaps(0, 1), 0);
        due("box(0, 3)", x.box(0, 3), 6);
        due("box(1, 3)", x.box(1, 3), 0);
        due("at(6)", x.at(6), 0);
        due("at(0)", x.at(0), 1);
        due("an act", x.count(9), 3);
        due("undo()", x.undo(), 2);
        due("box(0, 3)", x.box(0, 3), 0);
        x.puts(2, 8);
        due("the second one's kind is not to lie there", x.swaps(2, 1), 13);
        due("the first one's kind is not to lie there", x.swaps(1, 2), 3);
        due("nothing is changed", x.box(1, 3), 6);
        due("at(8)", x.at(8), 2);
        x.puts(4, 1);
        due("one that can't be lifted", x.swaps(0, 1), -5);
        x.puts(3, 12);
        due("too heavy for its stack", x.swaps(3, 4), 4);
        due("the other way round", x.swaps(4, 3), 14);
        due("too heavy for the deck", x.swaps(3, 2), 4);
        due("count(9)", x.count(9), 5);
        // both are lifted ahead of the first one's why: they are near to one another where they lie only
        x = told("ship bays 2 rows 1 hold 1 deck 1;level 1 across 9 along 2 hatch;kind;kind;apart 0 1 1;box 0 weight 1;box 1 weight 1;");
        x.puts(0, 0);
        x.puts(1, 3);
        due("swaps(0, 1)", x.swaps(0, 1), 0);
        due("box(0, 3)", x.box(0, 3), 3);
    }

    /** Promise 52. */
    private static void steady() {
        KeptApart x = told("ship bays 3 rows 1 hold 1 deck 1;kind;kind hold;box 0 weight 1;box 0 weight 9;box 0 weight 5;box 1 weight 2;box 0 weight 9;");
        due("steady() of none", x.steady(), -1);
        x.puts(1, 0);
        x.puts(0, 2);
        x.puts(2, 4);
        // lean 2 * (5 - 9) = -8; 0 and 1: 2 * (5 - 1) = 8; 0 and 2: 2 * (1 - 9); 1 and 2: 2 * (9 - 5) = 8: by none less
        due("lean(0)", x.lean(0), -8);
        due("steady()", x.steady(), -1);
        x.puts(3, 5);
        due("puts(3, 5) is refused", x.box(3, 3), -1);
        x.lifts(0);
        x.puts(3, 2);
        // 3 in the middle: 2 and 3: 2 * (2 - 9) = -14; 1 and 3: 2 * (5 - 2) = 6: less than 8
        due("steady()", x.steady(), 103);
        x.puts(0, 1);
        // lean -10: 0 and 1 stay in bay 0; 0 and 2: 1 in bay 2, 5 in bay 0: more; 0 and 3: 2 * (5 - 9 - 2): more; 1 and 3: 2 * (5 - 2 - 1) = 4; 1 and 2: 2 * (9 - 5 - 1) = 6
        due("lean(0)", x.lean(0), -10);
        due("steady()", x.steady(), 103);
        due("nothing is changed", x.box(1, 3), 0);
        due("no act", x.count(9), 6);
        due("swaps(1, 3)", x.swaps(1, 3), 0);
        due("lean(0)", x.lean(0), 4);
        // of like ones the first: 9 and 9 in bay 0 (hold, deck), 5 in bay 2
        x = told("ship bays 2 rows 1 hold 1 deck 1;kind;box 0 weight 9;box 0 weight 9;box 0 weight 5;");
        x.puts(0, 0);
        x.puts(1, 1);
        x.puts(2, 2);
        due("lean(0)", x.lean(0), -13);
        due("steady()", x.steady(), 2);
    }

    /** The last bay, row, tier, box: all rows are long enough. */
    private static void fullSize() {
        KeptApart x = told("ship bays 6 rows 4 hold 3 deck 3;wall 4 door;wall 0;level 4 across 9 along 9 walls 1;" + "kind;".repeat(7)
            + "apart 6 5 4;" + "box 5 weight 9 port 4;".repeat(22) + "box 5 weight 9;box 6 weight 99 port 5;");
        due("wall(4)", x.wall(4), 2);
        due("wall(5)", x.wall(5), -2);
        due("puts(23, 141)", x.puts(23, 141), 0);
        due("count(6)", x.count(6), 1);
        due("at(141)", x.at(141), 23);
        due("at(143)", x.at(143), -1);
        due("at(144)", x.at(144), -2);
        due("between(143, 24, 2)", x.between(143, 24, 2), 0);
        due("between(143, 0, 2)", x.between(143, 0, 2), 1);
        due("why(22, 118)", x.why(22, 118), 2);
        due("why(22, 117)", x.why(22, 117), 6);
        due("nearIn(22, 117)", x.nearIn(22, 117), 23);
        due("opens(4, 0)", x.opens(4, 0), 0);
        due("between(143, 24, 2)", x.between(143, 24, 2), 1);
        due("puts(22, 117)", x.puts(22, 117), 0);
        due("doors(0)", x.doors(0), 0);
        due("doors(1)", x.doors(1), 0);
        due("wall(4) as it was", x.wall(4), 3);
        due("opens(4, 1)", x.opens(4, 1), 1);
        due("near(0)", x.near(0), 2223);
        due("nearTo(23)", x.nearTo(23), 1);
        due("undo()", x.undo(), 3);
        due("wall(4)", x.wall(4), 3);
        due("far(143, 119, 4)", x.far(143, 119, 4), 1);
        due("clear(5, NONE): bays but the last", x.clear(5, -1), 144 - 24 - 1);
        due("clear(5, 118)", x.clear(5, 118), 119);
        due("lean(0)", x.lean(0), 99 * 5 + 9 * 3);
        due("lean(1)", x.lean(1), 108 * 3);
        due("lean(2)", x.lean(2), 108 * 3);
        due("weighs(5, 3, 1)", x.weighs(5, 3, 1), 99);
        due("kindsIn(5)", x.kindsIn(5), 64);
        due("bayOf(8, 6)", x.bayOf(8, 6), -1);
        due("free(0)", x.free(0), 142);
        due("clears()", x.clears(), 2);
        due("undo()", x.undo(), 3);
        due("box(23, 3)", x.box(23, 3), 141);
        due("lifts(22)", x.lifts(22), 117);
        due("loads()", x.loads(), 23);
        due("hang(0): a wall behind bay 0", x.hang(0), 12);
        due("hang(3): on deck", x.hang(3), 11);
        due("hang(141)", x.hang(141), 1);
        due("stack(5, 3, 1, 0)", x.stack(5, 3, 1, 0), 23);
        due("restows(4)", x.restows(4), 1);
        due("over()", x.over(), 0);
        x.label(22);
        CHECKS.due("the label", Texts.out(x), "w 5 9 1 22");
        due("puts(22, 99)", x.puts(22, 99), 0);
        x.puts(22, 102);
        due("label(22)", x.label(22), 10 + 1);
        x.clears();
        due("puts(21, 141)", x.puts(21, 141), 0);
        due("puts(20, 142)", x.puts(20, 142), 0);
        due("puts(19, 143)", x.puts(19, 143), 0);
        due("at(143)", x.at(143), 19);
        due("box(19, 3)", x.box(19, 3), 143);
        due("weighs(5, 3, 1)", x.weighs(5, 3, 1), 27);
        due("lean(1)", x.lean(1), 27 * 3);
        due("lean(2)", x.lean(2), 9 * (3 + 4 + 5));
        due("lifts(20)", x.lifts(20), -5);
        due("hang(143)", x.hang(143), 3);
        x = told("ship bays 6 rows 4 hold 3 deck 2;kind;box 0 weight 1;");
        due("puts(0, 100)", x.puts(0, 100), 0);
        due("label(0)", x.label(0), 11);
        CHECKS.due("the label", Texts.out(x), "a 0 1 1 100");
        due("at(119)", x.at(119), -1);
        due("at(120)", x.at(120), -2);
    }

    /** 24 boxes loaded, taken and taken back; a late one beside them. */
    private static void fullSizeLoading() {
        KeptApart x = told("ship bays 6 rows 4 hold 0 deck 1;kind;kind;level 1 across 9 along 9;apart 0 1 1;" + "box 0 weight 7;".repeat(24));
        due("effort(50000)", x.effort(50000), 24);
        due("effort(23)", x.effort(23), -3);
        due("load(24)", x.load(24), 0);
        due("told(23)", x.told(23), 23);
        due("takes()", x.takes(), 24);
        due("a full ship", x.shifts(0, 1, 50000), -1);
        due("hang(23)", x.hang(23), 24);
        due("hang(0)", x.hang(0), 24);
        due("undo()", x.undo(), 0);
        due("count(6)", x.count(6), 0);
        due("greedy()", x.greedy(), 0);
        due("told(23)", x.told(23), 23);
        due("loads()", x.loads(), 24);
        due("lifts(23)", x.lifts(23), 23);
        due("lifts(0)", x.lifts(0), 0);
        due("a late one of another kind", x.shifts(1, 1, 50), -3);
        due("a late one of the same kind", x.shifts(0, 99, 50), 0);
        due("shift(2, 1)", x.shift(2, 1), 0);
        due("the late one is no box", x.box(24, 0), -2);
        due("nor is it the last one", x.box(23, 1), 7);
        due("clears()", x.clears(), 22);
    }

    /** Nothing of an earlier text is left, nor of the one ahead of it. */
    private static void oneTextBehindAnother() {
        KeptApart x = told("ship bays 6 rows 2 hold 2 deck 1;wall 0;wall 1;wall 2;bears 5 5;level 1 across 1 along 1;level 2 across 1 along 1;"
            + "kind;kind;kind;apart 0 1 1;box 0 weight 5;box 1 weight 5;box 2 weight 5;");
        x.loads();
        x.shifts(0, 1, 9);
        due("a second text", Texts.ship(x, "ship bays 2 rows 1 hold 1 deck 0;kind;"), 2);
        due("a third text", Texts.ship(x, "ship bays 6 rows 2 hold 2 deck 1;level 2 across 9 along 9 walls 1;kind;kind hold;apart 0 1 2;box 0 weight 7;box 1 weight 7;"), 7);
        due("between", x.between(0, 35, 2), 0);
        due("count(7)", x.count(7), 999);
        due("level(1, 0)", x.level(1, 0), -2);
        due("level(2, 3)", x.level(2, 3), 0);
        due("kind(0)", x.kind(0), 0);
        due("apart(0, 0)", x.apart(0, 0), 0);
        due("free(0)", x.free(0), 36);
        due("puts(0, 0)", x.puts(0, 0), 0);
        due("puts(1, 33)", x.puts(1, 33), 6);
        due("shift(0, 0)", x.shift(0, 0), -1);
        due("told(0)", x.told(0), -6);
    }
}
