import java.util.function.IntUnaryOperator;

/** Term IV and the promises about acts, doors, what is undone, and what is written. */
final class ActSentences {
    private static final int MIN = Integer.MIN_VALUE;
    private static final int MAX = Integer.MAX_VALUE;
    /** CODE: tier and 3 times (row and 2 times bay); tier 2 is on deck. */
    private static final String SHIP = "ship bays 3 rows 2 hold 2 deck 1;";
    private static final String ONE = "ship bays 1 rows 1 hold 1 deck 0;";
    private static final String DOORS = "ship bays 6 rows 1 hold 1 deck 0;wall 0 door;wall 1 door;wall 2 door;wall 3 door;wall 4 door;";

    private final Sentences s;
    private final KeptApart nowhere = new KeptApart();

    ActSentences(Sentences s) {
        this.s = s;
    }

    void all() {
        puts();
        putsRefused();
        lifts();
        opens();
        books();
        near();
        doors();
        mostDoors();
        clears();
        undo();
        tell();
        octet();
        swaps();
        swapsRefused();
        label();
        acts();
        latestTwelve();
        refusedFirst();
        constants();
    }

    private void none(String call, IntUnaryOperator asked, int... arguments) {
        for (int n : arguments) {
            s.due(call + " of " + n, asked.applyAsInt(n), -2);
        }
    }

    private void puts() {
        s.says("18", "A BOX comes to a PLACE (from where it lies, if it can be lifted): 0;");
        KeptApart x = s.ship("ship bays 6 rows 4 hold 3 deck 3;kind;" + "box 0 weight 1;".repeat(24));
        s.due("the last BOX to the first PLACE", x.puts(23, 0), 0);
        s.due("at(0)", x.at(0), 23);
        s.due("from there to the last STACK", x.puts(23, 141), 0);
        s.due("at(0)", x.at(0), -1);
        s.due("at(141)", x.at(141), 23);
        s.due("box(23, 3)", x.box(23, 3), 141);
        s.due("on it", x.puts(0, 142), 0);
        s.due("on both", x.puts(1, 143), 0);
        s.due("the highest one can be lifted", x.puts(1, 0), 0);
        s.due("count(6)", x.count(6), 3);
    }

    private void putsRefused() {
        s.says("18", "else WHY not (1 .. 6),");
        KeptApart x = s.ship(SHIP + "bears 20 9;level 1 across 9 along 1;kind;kind deck;kind;apart 0 2 1;"
            + "box 0 weight 10;box 0 weight 10;box 1 weight 1;box 0 weight 11;box 2 weight 1;box 0 weight 9;box 0 weight 10;");
        x.puts(0, 0);
        int[][] refused = {{1, 0, 1}, {0, 0, 1}, {1, 4, 2}, {2, 3, 3}, {3, 1, 4}, {1, 2, 4}, {4, 3, 6}};
        for (int[] r : refused) {
            int place = x.box(r[0], 3);
            s.due("puts(" + r[0] + ", " + r[1] + ")", x.puts(r[0], r[1]), r[2]);
            s.due("it lies where it lay", x.box(r[0], 3), place);
            s.due("no act", x.count(9), 1);
        }
        x.lifts(0);
        x.puts(5, 0);
        s.due("heavier than the one below", x.puts(6, 1), 5);
        s.due("at(1)", x.at(1), -1);
        s.due("one that lies, refused, stays there", x.puts(5, 4), 2);
        s.due("box(5, 3)", x.box(5, 3), 0);
        s.due("no act", x.count(9), 3);

        s.says("18", "7: it can't be lifted (ahead of those).");
        x = s.ship("ship bays 2 rows 1 hold 3 deck 1;bears 9 1;kind hold;kind;box 0 weight 3;box 0 weight 3;box 1 weight 1;");
        x.puts(0, 0);
        x.puts(1, 1);
        for (int place = 0; place < 8; place++) {
            s.due("puts(0, " + place + "), whatever is against it", x.puts(0, place), 7);
        }
        s.due("box(0, 3)", x.box(0, 3), 0);
        s.due("no act", x.count(9), 2);
        x.puts(1, 4);
        s.due("it can be lifted now", x.puts(0, 5), 0);

        s.says("18", "-2.");
        KeptApart y = x;
        none("a BOX", b -> y.puts(b, 0), 3, 24, -1, MIN, MAX);
        none("a PLACE", p -> y.puts(2, p), 8, 144, -1, MIN, MAX);
        none("a PLACE, for one that can't be lifted", p -> y.puts(1, p), 8, 144, -1, MIN, MAX);
        s.due("no act", x.count(9), 4);
        none("puts of no SHIP", p -> nowhere.puts(0, p), 0, -1);
    }

    private void lifts() {
        s.says("19", "A BOX is lifted, it lies nowhere then: the PLACE where it lay.");
        KeptApart x = s.ship("ship bays 6 rows 4 hold 3 deck 3;kind;" + "box 0 weight 1;".repeat(24));
        x.puts(0, 0);
        x.puts(23, 138);
        x.puts(1, 141);
        x.puts(2, 142);
        x.puts(3, 143);
        s.due("from the first PLACE", x.lifts(0), 0);
        s.due("box(0, 3)", x.box(0, 3), -1);
        s.due("at(0)", x.at(0), -1);
        s.due("the last BOX", x.lifts(23), 138);
        s.says("19", "NONE: it lies nowhere;");
        s.due("lifts(0) again", x.lifts(0), -1);
        s.due("lifts(4) that never lay", x.lifts(4), -1);
        s.due("no act", x.count(9), 7);
        s.says("19", "-5: it can't be;");
        s.due("the lowest of three", x.lifts(1), -5);
        s.due("the middle of three", x.lifts(2), -5);
        s.due("they lie where they lay", x.at(142), 2);
        s.due("no act", x.count(9), 7);
        s.due("the last PLACE", x.lifts(3), 143);
        s.due("the middle one then", x.lifts(2), 142);
        s.says("19", "-2.");
        none("lifts", x::lifts, 24, 25, -1, MIN, MAX);
        none("lifts of no SHIP", nowhere::lifts, 0, -1);
    }

    private void opens() {
        s.says("20", "A DOOR is open (1) or not (0) from now on: how many twos of BOXES are NEAR then.");
        KeptApart x = s.ship(DOORS + "level 1 across 9 along 9 walls 1;kind;apart 0 0 1;" + "box 0 weight 1;".repeat(6));
        for (int bay = 0; bay < 5; bay++) {
            s.due("opens(" + bay + ", 0)", x.opens(bay, 0), 0);
            s.due("wall(" + bay + ")", x.wall(bay), 3);
        }
        for (int b = 0; b < 6; b++) {
            s.due("puts(" + b + ", " + b + ")", x.puts(b, b), 0);
        }
        int[] twos = {1, 3, 6, 10, 15};
        for (int bay = 0; bay < 5; bay++) {
            s.due("opens(" + bay + ", 1)", x.opens(bay, 1), twos[bay]);
            s.due("wall(" + bay + ")", x.wall(bay), 2);
        }
        s.due("the same state again", x.opens(4, 1), 15);
        s.due("shut in the middle", x.opens(2, 0), 6);
        s.due("the same state again", x.opens(2, 0), 6);
        s.says("20", "-2.");
        KeptApart y = s.ship("ship bays 4 rows 1 hold 1 deck 0;wall 0 door;wall 1;");
        none("a BAY", bay -> y.opens(bay, 0), 1, 2, 3, 4, -1, MIN, MAX);
        none("open", open -> y.opens(0, open), 2, -1, MIN, MAX);
        s.due("wall(0)", y.wall(0), 2);
        s.due("wall(1)", y.wall(1), 1);
        s.due("wall(2)", y.wall(2), 0);
        s.due("no act", y.count(9), 0);
        none("opens of no SHIP", open -> nowhere.opens(0, open), 0, 1);
    }

    private void books() {
        s.says("21", "A BOX more: its number.");
        KeptApart x = s.ship(SHIP + "kind;kind;");
        s.due("the first one", x.books(0, 1, 1), 0);
        s.due("the greatest numbers", x.books(1, 99, 5), 1);
        int[] due = {1, 99, 5, -1};
        for (int what = 0; what < 4; what++) {
            s.due("box(1, " + what + ")", x.box(1, what), due[what]);
        }
        for (int b = 2; b < 24; b++) {
            s.due("number " + b, x.books(0, b, 2), b);
        }
        s.says("21", "-5: there are 24;");
        s.due("a 25th", x.books(0, 1, 1), -5);
        s.due("count(5)", x.count(5), 24);
        s.due("no act", x.count(9), 12);
        s.due("box(24, 0)", x.box(24, 0), -2);
        s.due("the last one is what it was", x.box(23, 1), 23);
        x.undo();
        s.due("there is room again", x.books(1, 9, 3), 23);
        s.due("and then none", x.books(1, 9, 3), -5);
        KeptApart full = s.ship(SHIP + "kind;" + "box 0 weight 1;".repeat(24));
        s.due("24 told in the text", full.books(0, 1, 1), -5);
        s.due("no act", full.count(9), 0);
        s.says("21", "-2 (KIND, weight, port as told).");
        for (KeptApart y : new KeptApart[] {s.ship(SHIP + "kind;kind;"), x}) {
            none("a KIND", k -> y.books(k, 1, 1), 2, 7, -1, MIN, MAX);
            none("a weight", w -> y.books(0, w, 1), 0, 100, -1, MIN, MAX);
            none("a port", p -> y.books(0, 1, p), 0, 6, -1, MIN, MAX);
        }
        s.due("count(5)", x.count(5), 24);
        none("books without KINDS", k -> s.ship(SHIP).books(k, 1, 1), 0, -1);
        none("books of no SHIP", k -> nowhere.books(k, 1, 1), 0, -1);
    }

    private void near() {
        s.says("22", "Twos of BOXES that are NEAR: how many (k NONE), the k-th (from 0), the lesser BOX first, as 100 times it and the other one.");
        KeptApart x = s.ship(DOORS + "level 1 across 9 along 9 walls 1;kind;kind;apart 0 0 1;" + "box 1 weight 1;".repeat(22) + "box 0 weight 1;".repeat(2));
        s.due("none: how many", x.near(-1), 0);
        x.opens(0, 0);
        x.puts(23, 0);
        x.puts(22, 1);
        x.opens(0, 1);
        s.due("one: how many", x.near(-1), 1);
        s.due("the last BOXES", x.near(0), 2223);
        KeptApart y = s.ship(DOORS + "level 1 across 9 along 9 walls 1;kind;apart 0 0 1;" + "box 0 weight 1;".repeat(4));
        for (int bay = 0; bay < 4; bay++) {
            y.opens(bay, 0);
            y.puts(3 - bay, bay);
        }
        for (int bay = 0; bay < 4; bay++) {
            y.opens(bay, 1);
        }
        int[] twos = {1, 2, 3, 102, 103, 203};
        for (int k = 0; k < 6; k++) {
            s.due("near(" + k + ")", y.near(k), twos[k]);
        }
        s.says("22", "NONE: not so many;");
        s.due("near(6)", y.near(6), -1);
        s.due("near(MAX)", y.near(MAX), -1);
        y.clears();
        s.due("none at all", y.near(0), -1);
        s.due("no BOXES at all", s.ship(ONE).near(0), -1);
        s.says("22", "-2 (k below NONE, too).");
        none("near", y::near, -2, -3, MIN);
        none("near of no SHIP", nowhere::near, -2, -1, 0);

        s.says("23", "How many BOXES are NEAR to a BOX.");
        s.due("one", x.nearTo(22), 1);
        s.due("one, the other way round", x.nearTo(23), 1);
        s.due("one that lies nowhere", x.nearTo(0), 0);
        y.undo();
        for (int b = 0; b < 4; b++) {
            s.due("all others", y.nearTo(b), 3);
        }
        s.says("23", "-2.");
        none("nearTo", y::nearTo, 4, 24, -1, MIN, MAX);
        none("nearTo of no SHIP", nowhere::nearTo, 0, -1);
    }

    private void doors() {
        s.says("24", "DOORS, as bits of BAYS: what 0: those that could be open, all others being as they are, without a two more that is NEAR");
        KeptApart x = s.ship(DOORS + "level 1 across 9 along 9 walls 2;kind;kind;apart 0 1 1;box 0 weight 1;box 1 weight 1;box 1 weight 1;");
        s.due("nobody lies: all", x.doors(0), 31);
        x.opens(0, 0);
        x.opens(1, 0);
        x.opens(4, 0);
        x.puts(0, 0);
        x.puts(1, 2);
        s.due("0 and 1 must both be shut", x.doors(0), 4 + 8 + 16);
        x.opens(3, 0);
        s.due("one that does not matter could be", x.doors(0), 4 + 8 + 16);
        s.due("nothing is changed", x.wall(0), 3);
        s.due("nothing is changed", x.wall(3), 3);
        s.due("nothing is changed", x.wall(2), 2);
        s.due("no DOORS", s.ship("ship bays 2 rows 1 hold 1 deck 0;wall 0;").doors(0), 0);
        s.due("the last DOOR alone", s.ship("ship bays 6 rows 1 hold 1 deck 0;wall 4 door;").doors(0), 16);
        s.says("24", "(those that are open, too),");
        s.due("a two is NEAR by it", x.opens(0, 1), 1);
        s.due("it is open", x.doors(0), 31);
        x.opens(0, 0);
        s.due("it is not", x.doors(0), 28);
        s.says("24", "-2.");
        none("doors", x::doors, 2, -1, MIN, MAX);
        none("doors of no SHIP", nowhere::doors, 0, 1);
    }

    private void mostDoors() {
        s.says("24", "1: of all sets of DOORS that are open, all others not, without any two that is NEAR, the one with the most,");
        KeptApart x = s.ship(DOORS + "level 1 across 9 along 9 walls 1;kind;apart 0 0 1;" + "box 0 weight 1;".repeat(6));
        s.due("nobody lies: all", x.doors(1), 31);
        for (int bay = 0; bay < 5; bay++) {
            x.opens(bay, 0);
        }
        x.puts(0, 0);
        x.puts(1, 5);
        s.due("four of five; the least number", x.doors(1), 15);
        s.due("nothing is changed", x.wall(0), 3);
        s.says("24", "of like ones the least number");
        x.puts(2, 2);
        // 0 or 1 shut, and one of 2, 3, 4
        s.due("three of five", x.doors(1), 1 + 4 + 8);
        for (int b = 3; b < 6; b++) {
            x.puts(b, new int[] {0, 0, 0, 1, 3, 4}[b]);
        }
        s.due("none of five", x.doors(1), 0);
        x.opens(2, 1);
        s.due("whatever they are now", x.doors(1), 0);
        s.due("and so they stay", x.wall(2), 2);
        s.due("no DOORS", s.ship(ONE).doors(1), 0);
        s.due("the last DOOR alone", s.ship("ship bays 6 rows 1 hold 1 deck 0;wall 4 door;").doors(1), 16);
        s.says("24", "(NONE: not even with none).");
        // boxes come only where they are not near, and a shut door only parts them: with none open none ever is
        s.due("with all shut none is NEAR", x.doors(1) == -1 ? 1 : 0, 0);
    }

    private void clears() {
        s.says("41", "All BOXES are lifted: how many lay.");
        KeptApart x = s.ship("ship bays 1 rows 4 hold 3 deck 3;kind;" + "box 0 weight 1;".repeat(24));
        s.due("none lay", x.clears(), 0);
        s.due("no act", x.count(9), 0);
        x.loads();
        s.due("all lay, one on the other", x.clears(), 24);
        s.due("count(6)", x.count(6), 0);
        for (int place = 0; place < 24; place++) {
            s.due("at(" + place + ")", x.at(place), -1);
        }
        s.due("count(5)", x.count(5), 24);
        s.due("again: none lay", x.clears(), 0);
        s.due("no act more", x.count(9), 2);
        s.due("undo()", x.undo(), 1);
        s.due("all lie again", x.count(6), 24);
        s.due("without BOXES", s.ship(ONE).clears(), 0);
        s.says("41", "-2: there is no SHIP.");
        s.due("clears()", nowhere.clears(), -2);
    }

    private void undo() {
        s.says("42", "The latest act is undone: how many can be.");
        KeptApart x = s.ship(SHIP + "kind;box 0 weight 1;box 0 weight 1;");
        x.puts(0, 0);
        x.puts(1, 3);
        s.due("two acts: undo()", x.undo(), 1);
        s.due("the latest one", x.box(1, 3), -1);
        s.due("not the other one", x.box(0, 3), 0);
        s.due("undo()", x.undo(), 0);
        s.due("box(0, 3)", x.box(0, 3), -1);
        KeptApart y = s.ship(DOORS + "level 1 across 9 along 9 walls 1;kind;apart 0 0 1;box 0 weight 1;box 0 weight 1;");
        for (int bay = 0; bay < 5; bay++) {
            y.opens(bay, 0);
        }
        for (int bay = 4; bay >= 0; bay--) {
            s.due("a DOOR: undo()", y.undo(), bay);
            for (int door = 0; door < 5; door++) {
                s.due("wall(" + door + ")", y.wall(door), door < bay ? 3 : 2);
            }
            s.due("SHUT walls", y.between(0, 5, 2), bay);
        }
        y.opens(2, 0);
        y.puts(0, 0);
        y.puts(1, 5);
        s.due("opens(2, 1)", y.opens(2, 1), 1);
        y.undo();
        s.due("none is NEAR again", y.near(-1), 0);
        s.says("42", "NONE: none.");
        s.due("undo()", x.undo(), -1);
        s.due("undo() again", x.undo(), -1);
        s.due("with no SHIP", nowhere.undo(), -1);
        s.due("with no act", s.ship(SHIP).undo(), -1);
        x.puts(0, 0);
        Texts.ship(x, SHIP);
        s.due("behind a new text", x.undo(), -1);
    }

    private void tell() {
        s.says("43", "A picture of a BAY is written in OUT: TIERS from the highest one on, for each ROW (0 first) . or the letter of the BOX (a .. x);");
        KeptApart x = s.ship("ship bays 2 rows 3 hold 0 deck 2;kind;" + "box 0 weight 1;".repeat(24));
        x.puts(0, 6);
        x.puts(23, 10);
        x.puts(1, 11);
        s.due("tell(1)", x.tell(1), 8);
        s.due("OUT", Texts.out(x), "..b\na.x\n");
        s.due("tell(0)", x.tell(0), 8);
        s.due("OUT", Texts.out(x), "...\n...\n");
        s.says("43", "LF (10) behind each TIER,");
        s.due("tell(0)", s.ship(ONE).tell(0), 2);
        s.due("octet(3)", x.octet(3), 10);
        s.due("octet(7)", x.octet(7), 10);
        s.says("43", "ahead of the hold (if there is one, and a deck) a line of = (one for each ROW) and LF: how many bytes.");
        String[] ships = {"bays 6 rows 4 hold 3 deck 3", "bays 1 rows 1 hold 1 deck 1", "bays 1 rows 2 hold 2 deck 0", "bays 1 rows 2 hold 0 deck 2"};
        String[] pictures = {"....\n....\n....\n====\n....\n....\n....\n", ".\n=\n.\n", "..\n..\n", "..\n..\n"};
        for (int i = 0; i < ships.length; i++) {
            KeptApart y = s.ship("ship " + ships[i] + ";");
            int last = y.count(0) - 1;
            s.due("tell(" + last + ")", y.tell(last), pictures[i].length());
            s.due("OUT", Texts.out(y), pictures[i]);
        }
        KeptApart y = s.ship("ship bays 1 rows 4 hold 3 deck 3;kind;" + "box 0 weight 1;".repeat(24));
        y.loads();
        s.due("a full BAY", y.tell(0), 35);
        s.due("OUT", Texts.out(y), "flrx\nekqw\ndjpv\n====\nciou\nbhnt\nagms\n");
        s.says("43", "-2 (OUT stays).");
        none("tell", y::tell, 1, -1, MIN, MAX);
        s.due("OUT", Texts.out(y), "flrx\nekqw\ndjpv\n====\nciou\nbhnt\nagms\n");
        none("tell of no SHIP", nowhere::tell, 0, -1);
        s.due("count(11)", nowhere.count(11), 0);
    }

    private void octet() {
        s.says("44", "Byte i of OUT (what tell(), label() wrote last that was not refused, whatever came since, a new text, too;");
        KeptApart x = s.ship(ONE + "kind;box 0 weight 1;");
        x.tell(0);
        s.due("octet(0)", x.octet(0), '.');
        s.due("octet(1)", x.octet(1), 10);
        x.label(0);
        s.due("octet(0)", x.octet(0), 'a');
        x.tell(1);
        x.label(1);
        x.puts(0, 0);
        x.undo();
        s.due("OUT", Texts.out(x), "a 0 1 1 -");
        Texts.ship(x, "ship");
        Texts.ship(x, SHIP);
        s.due("behind a faulty text and a new one", Texts.out(x), "a 0 1 1 -");
        x.label(0);
        s.due("label() refused: there is no such BOX", Texts.out(x), "a 0 1 1 -");
        s.says("44", "empty ahead of any).");
        s.due("octet(0)", s.ship(ONE).octet(0), -1);
        s.due("octet(0) of no SHIP", nowhere.octet(0), -1);
        s.says("44", "NONE: there is none such.");
        s.due("the last one", x.octet(8), '-');
        for (int i : new int[] {9, 10, 35, 900, -1, -2, MIN, MAX}) {
            s.due("octet(" + i + ")", x.octet(i), -1);
        }
        x.tell(0);
        x = s.ship("ship bays 6 rows 4 hold 3 deck 3;kind;box 0 weight 1;");
        x.tell(0);
        s.due("the last one of the most", x.octet(34), 10);
        s.due("one beyond", x.octet(35), -1);
        x.label(0);
        s.due("nothing of a longer one stays", x.octet(9), -1);
    }

    private void swaps() {
        s.says("51", "Two BOXES that lie and can be lifted change places: both are lifted, the first one comes to where the other one lay, then that one to where the first one lay: 0;");
        KeptApart x = s.ship("ship bays 6 rows 4 hold 3 deck 3;level 1 across 9 along 9;kind;kind;apart 0 1 1;kind;" + "box 2 weight 1;".repeat(22)
            + "box 2 weight 2;box 2 weight 1;");
        x.puts(0, 0);
        x.puts(23, 138);
        s.due("the first one and the last one", x.swaps(0, 23), 0);
        s.due("at(138)", x.at(138), 0);
        s.due("at(0)", x.at(0), 23);
        s.due("the other way round", x.swaps(23, 0), 0);
        s.due("box(0, 3)", x.box(0, 3), 0);
        s.due("box(23, 3)", x.box(23, 3), 138);
        x.puts(22, 1);
        s.due("on another one: too heavy for it", x.box(22, 3), -1);
        x.puts(22, 6);
        x.puts(1, 7);
        s.due("of a STACK of two the upper one", x.swaps(1, 0), 0);
        s.due("at(7)", x.at(7), 0);
        x = s.ship("ship bays 1 rows 2 hold 1 deck 0;level 1 across 1 along 9;kind;kind;apart 0 1 1;box 0 weight 1;box 1 weight 1;");
        x.puts(0, 0);
        x.puts(1, 1);
        s.due("a full ship", x.swaps(0, 1), 0);
        s.due("at(0)", x.at(0), 1);
        s.says("51", "(An act, if 0.)");
        s.due("count(9)", x.count(9), 3);
        s.due("undo()", x.undo(), 2);
        s.due("at(0)", x.at(0), 0);
        s.due("at(1)", x.at(1), 1);
    }

    private void swapsRefused() {
        s.says("51", "else WHY the first one may not, or 10 and WHY the other one may not (nothing is changed then);");
        // 3: a kind for the deck alone; 4: the deck bears 5; 5: a light one below; 6: kinds 0 and 2 a bay apart
        String text = "ship bays 3 rows 1 hold 2 deck 1;bears 99 5;level 1 across 9 along 1;kind;kind deck;kind;apart 0 2 1;"
            + "box 0 weight 4;box 1 weight 5;box 0 weight 6;box 0 weight 3;box 2 weight 2;box 0 weight 1;";
        KeptApart x = s.ship(text);
        x.puts(0, 0);
        x.puts(1, 2);
        swapsDue(x, 1, 0, 3);
        x.clears();
        x.puts(2, 0);
        x.puts(3, 2);
        swapsDue(x, 2, 3, 4);
        x.clears();
        x.puts(3, 0);
        x.puts(5, 1);
        x.puts(0, 3);
        swapsDue(x, 0, 5, 5);
        x = s.ship(text);
        x.puts(0, 0);
        x.puts(5, 1);
        x.puts(4, 3);
        swapsDue(x, 4, 5, 6);

        s.says("51", "-5: one of them lies nowhere, or can't be lifted;");
        s.due("the first one lies nowhere", x.swaps(3, 5), -5);
        s.due("the other one lies nowhere", x.swaps(5, 3), -5);
        s.due("both lie nowhere", x.swaps(2, 3), -5);
        s.due("the first one can't be lifted", x.swaps(0, 4), -5);
        s.due("the other one can't be lifted", x.swaps(4, 0), -5);
        s.due("one on the other", x.swaps(0, 5), -5);
        s.due("no act", x.count(9), 3);
        s.due("box(0, 3)", x.box(0, 3), 0);

        s.says("51", "-2 (one and the same, too).");
        KeptApart y = x;
        s.due("one that lies", x.swaps(5, 5), -2);
        s.due("one that lies nowhere", x.swaps(3, 3), -2);
        s.due("one that can't be lifted", x.swaps(0, 0), -2);
        none("the first one", b -> y.swaps(b, 5), 6, 24, -1, MIN, MAX);
        none("the other one", b -> y.swaps(5, b), 6, 24, -1, MIN, MAX);
        none("the other one, the first lying nowhere", b -> y.swaps(3, b), 6, 24, -1, MIN, MAX);
        none("swaps of no SHIP", b -> nowhere.swaps(0, b), 0, 1);
    }

    /** Two that may not change places, asked in both orders. */
    private void swapsDue(KeptApart x, int b, int o, int why) {
        int acts = x.count(9);
        int placeB = x.box(b, 3);
        int placeO = x.box(o, 3);
        s.due("swaps(" + b + ", " + o + ")", x.swaps(b, o), why);
        s.due("swaps(" + o + ", " + b + ")", x.swaps(o, b), 10 + why);
        s.due("box(" + b + ", 3)", x.box(b, 3), placeB);
        s.due("box(" + o + ", 3)", x.box(o, 3), placeO);
        s.due("at(" + placeB + ")", x.at(placeB), b);
        s.due("at(" + placeO + ")", x.at(placeO), o);
        s.due("no act", x.count(9), acts);
    }

    private void label() {
        s.says("53", "A BOX is written in OUT: its letter (a .. x), its KIND, its weight, its port, its PLACE (CODE; - without), a blank between: how many bytes.");
        KeptApart x = s.ship("ship bays 6 rows 4 hold 3 deck 3;" + "kind;".repeat(7) + "box 0 weight 1;" + "box 1 weight 10;".repeat(22) + "box 6 weight 99 port 5;");
        s.due("the shortest", x.label(0), 9);
        s.due("OUT", Texts.out(x), "a 0 1 1 -");
        s.due("nowhere", x.label(23), 10);
        s.due("OUT", Texts.out(x), "x 6 99 5 -");
        x.puts(1, 141);
        x.puts(2, 142);
        x.puts(3, 143);
        s.due("the last PLACE", x.label(3), 12);
        s.due("OUT", Texts.out(x), "d 1 10 1 143");
        x.puts(23, 138);
        s.due("the longest", x.label(23), 12);
        s.due("OUT", Texts.out(x), "x 6 99 5 138");
        int[] places = {0, 9, 12, 99, 102};
        for (int place : places) {
            s.due("puts(0, " + place + ")", x.puts(0, place), 0);
            String text = "a 0 1 1 " + place;
            s.due("label(0)", x.label(0), text.length());
            s.due("OUT", Texts.out(x), text);
        }
        KeptApart hundred = s.ship("ship bays 6 rows 4 hold 3 deck 2;kind;box 0 weight 1;");
        hundred.puts(0, 100);
        s.due("PLACE 100", hundred.label(0), 11);
        s.due("OUT", Texts.out(hundred), "a 0 1 1 100");
        s.says("53", "-2 (OUT stays).");
        String out = Texts.out(x);
        none("label", x::label, 24, 25, -1, MIN, MAX);
        s.due("OUT", Texts.out(x), out);
        none("label without BOXES", s.ship(SHIP + "kind;")::label, 0, -1);
        none("label of no SHIP", nowhere::label, 0, -1);
        s.due("count(11)", nowhere.count(11), 0);
    }

    private void acts() {
        s.says("IV", "ACTS: puts(), lifts(), swaps(),");
        KeptApart x = s.ship("ship bays 2 rows 2 hold 1 deck 0;wall 0 door;kind;box 0 weight 1;box 0 weight 1;");
        x.puts(0, 0);
        x.puts(1, 1);
        s.due("puts()", x.count(9), 2);
        x.puts(1, 0);
        s.due("puts() refused", x.count(9), 2);
        x.swaps(0, 1);
        s.due("swaps()", x.count(9), 3);
        x.swaps(0, 0);
        s.due("swaps() refused", x.count(9), 3);
        x.lifts(0);
        s.due("lifts()", x.count(9), 4);
        x.lifts(0);
        s.due("lifts() of one that lies nowhere", x.count(9), 4);
        s.says("IV", "opens() of another state,");
        x.opens(0, 1);
        s.due("opens() of the same state", x.count(9), 4);
        x.opens(0, 0);
        s.due("opens() of another state", x.count(9), 5);
        x.opens(0, 0);
        s.due("opens() of the same state", x.count(9), 5);
        s.says("IV", "books(),");
        x.books(0, 1, 1);
        s.due("books()", x.count(9), 6);
        x.books(0, 100, 1);
        s.due("books() refused", x.count(9), 6);
        s.says("IV", "loads() that puts one at least,");
        s.due("two are put", x.loads(), 2);
        s.due("loads()", x.count(9), 7);
        s.due("none is put", x.loads(), 0);
        s.due("loads() that puts none", x.count(9), 7);
        s.says("IV", "takes() likewise,");
        x.takes();
        s.due("takes() of nothing TOLD", x.count(9), 7);
        x.greedy();
        x.load(1);
        s.due("greedy(), load() are none", x.count(9), 7);
        s.due("none is put", x.takes(), 0);
        s.due("takes() that puts none", x.count(9), 7);
        x.lifts(2);
        x.greedy();
        s.due("one is put", x.takes(), 1);
        s.due("takes()", x.count(9), 9);
        s.says("IV", "clears() likewise.");
        s.due("three lay", x.clears(), 3);
        s.due("clears()", x.count(9), 10);
        s.due("none lay", x.clears(), 0);
        s.due("clears() of none", x.count(9), 10);
        for (int left = 9; left >= 0; left--) {
            s.due("each is undone", x.undo(), left);
        }
        s.due("no BOX more", x.count(5), 2);
        s.due("wall(0)", x.wall(0), 2);
        s.due("count(6)", x.count(6), 0);
    }

    private void latestTwelve() {
        s.says("IV", "The latest 12 can be undone one by one.");
        for (int acts = 0; acts <= 40; acts++) {
            int kept = Math.min(acts, 12);
            KeptApart x = s.ship("ship bays 1 rows 4 hold 3 deck 3;kind;box 0 weight 1;");
            for (int i = 0; i < acts; i++) {
                x.puts(0, 3 * (i % 8));
            }
            s.due("count(9) behind " + acts, x.count(9), kept);
            for (int i = acts - 1; i >= acts - kept; i--) {
                s.due("box(0, 3) behind act " + i + " of " + acts, x.box(0, 3), 3 * (i % 8));
                s.due("undo() of act " + i + " of " + acts, x.undo(), i - (acts - kept));
            }
            s.due("undo() behind all that can be", x.undo(), -1);
            s.due("what came ahead of them stays", x.box(0, 3), acts == kept ? -1 : 3 * ((acts - 13) % 8));
            x.books(0, 1, 1);
            s.due("an act behind them", x.count(9), 1);
            s.due("undo()", x.undo(), 0);
            s.due("what came ahead of them stays", x.box(0, 3), acts == kept ? -1 : 3 * ((acts - 13) % 8));
        }
        // undone acts give room: never more than 12, and always the latest ones
        KeptApart x = s.ship("ship bays 1 rows 4 hold 3 deck 3;kind;box 0 weight 1;");
        int place = -1;
        for (int round = 0; round < 20; round++) {
            for (int i = 0; i < 7; i++) {
                x.puts(0, 3 * ((round + i) % 8));
            }
            place = x.box(0, 3);
            x.lifts(0);
            s.due("undo() of a lift in round " + round, x.undo(), round == 0 ? 7 : 11);
            s.due("box(0, 3)", x.box(0, 3), place);
        }
    }

    private void refusedFirst() {
        s.says("IV", "-2 (where nothing else is told): there is no SHIP, no such BAY, ROW, TIER, wall with a DOOR, LEVEL that is told, KIND, BOX, PLACE, what, number as told;");
        KeptApart x = s.ship(ONE + "kind;box 0 weight 1;");
        s.due("no such BAY", x.kindsIn(1), -2);
        s.due("no such ROW", x.weighs(0, 1, 0), -2);
        s.due("no such TIER", x.at(1), -2);
        s.due("no wall with a DOOR", x.opens(0, 1), -2);
        s.due("no LEVEL that is told", x.level(1, 0), -2);
        s.due("no such KIND", x.kind(1), -2);
        s.due("no such BOX", x.nearTo(1), -2);
        s.due("no such PLACE", x.hang(1), -2);
        s.due("no such what", x.free(2), -2);
        s.due("no such number", x.restows(6), -2);
        s.says("IV", "ahead of NONE, -3, -5.");
        s.due("may(): ahead of NONE", x.may(1, 99), -2);
        s.due("near(): ahead of NONE", nowhere.near(99), -2);
        s.due("clear(): ahead of NONE", x.clear(1, 99), -2);
        s.due("stack(): ahead of NONE", x.stack(0, 1, 0, 99), -2);
        s.due("shift(): ahead of NONE", nowhere.shift(0, 0), -2);
        s.due("bayOf(): ahead of NONE", x.bayOf(1, 1), -2);
        s.due("lifts(): ahead of NONE", x.lifts(1), -2);
        s.due("hang(): ahead of NONE", nowhere.hang(0), -2);
        x = s.ship("ship bays 1 rows 2 hold 2 deck 0;level 1 across 9 along 9;kind;kind;apart 0 1 1;" + "box 0 weight 1;".repeat(24));
        s.due("load(1) is too long", x.load(1), -3);
        s.due("load(0): ahead of -3", x.load(0), -2);
        s.due("effort(0): ahead of -3", x.effort(0), -2);
        x.puts(0, 0);
        x.puts(1, 1);
        s.due("shifts(1, 1, 1) is too long", x.shifts(1, 1, 1), -3);
        s.due("shifts(2, 1, 1): ahead of -3", x.shifts(2, 1, 1), -2);
        s.due("shifts(1, 100, 1): ahead of -3", x.shifts(1, 100, 1), -2);
        s.due("shifts(1, 1, 0): ahead of -3", x.shifts(1, 1, 0), -2);
        s.due("books(0, 1, 1) is one too many", x.books(0, 1, 1), -5);
        s.due("books(2, 1, 1): ahead of -5", x.books(2, 1, 1), -2);
        s.due("swaps(0, 24): ahead of -5", x.swaps(0, 24), -2);
        s.due("swaps(0, 0): ahead of -5", x.swaps(0, 0), -2);
        s.due("lifts(24): ahead of -5", x.lifts(24), -2);
        s.due("told(24): ahead of -6", x.told(24), -2);
        s.due("takes() of no SHIP: ahead of -6", nowhere.takes(), -2);
        s.due("puts(0, 4): ahead of 7", x.puts(0, 4), -2);
    }

    private void constants() {
        s.says("The constants", "`TOO_LONG = -3`: TOO LONG.");
        s.due("TOO_LONG", KeptApart.TOO_LONG, -3);
        s.due("NONE", KeptApart.NONE, -1);
        s.says("The constants", "`NO_SUCH = Long.MIN_VALUE`: What is told in place of -2 where numbers may be below 0.");
        s.due("NO_SUCH", KeptApart.NO_SUCH, Long.MIN_VALUE);
        s.due("lean(4)", s.ship(ONE).lean(4), KeptApart.NO_SUCH);
        KeptApart x = s.ship("ship bays 3 rows 1 hold 1 deck 0;kind;box 0 weight 1;");
        x.puts(0, 0);
        s.due("-2 where numbers may be below 0 is a number", x.lean(0), -2);
    }
}
