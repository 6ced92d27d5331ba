import java.util.ArrayList;
import java.util.List;

/** Term I and promises 1 to 6: the tape, the text, its faults, what there is. */
final class TextSentences {
    private static final int[] EXTREMES = {Integer.MIN_VALUE, Integer.MIN_VALUE + 1, Integer.MAX_VALUE - 1, Integer.MAX_VALUE};
    private static final String SHIP = "ship bays 3 rows 2 hold 2 deck 1;";
    private static final String LEVEL = "level 1 across 1 along 1;";
    /** All there can be at once: 6 bays, 7 kinds, all twos of them told apart, 24 boxes; 70 lines. */
    static final String FULL = full();

    private final Sentences s;

    TextSentences(Sentences s) {
        this.s = s;
    }

    void all() {
        newObject();
        feed();
        end();
        shipCall();
        faultCall();
        count();
        lines();
        shipLine();
        wallAndBears();
        levels();
        kindsAndApart();
        boxes();
        tokens();
        firstFault();
        faultsOne();
        faultsTwo();
        faultsThree();
        faultsFour();
    }

    private static String full() {
        StringBuilder sb = new StringBuilder("ship bays 6 rows 4 hold 3 deck 3;");
        for (int bay = 0; bay < 5; bay++) {
            sb.append("wall ").append(bay).append(bay % 2 == 0 ? " door;" : ";");
        }
        sb.append("bears 998 997;");
        for (int l = 1; l <= 4; l++) {
            sb.append("level ").append(l).append("across9along9;");
        }
        sb.append("kind;".repeat(7));
        for (int a = 0; a < 7; a++) {
            for (int b = a; b < 7; b++) {
                sb.append("apart").append(a).append(' ').append(b).append(' ').append(1 + (a + b) % 4).append(';');
            }
        }
        for (int b = 0; b < 24; b++) {
            sb.append("box").append(b % 7).append("weight").append(99 - b).append(';');
        }
        return sb.toString();
    }

    private void newObject() {
        s.says("1", "No SHIP.");
        KeptApart x = new KeptApart();
        for (int what = 0; what <= 11; what++) {
            s.due("count(" + what + ")", x.count(what), 0);
        }
        s.due("over()", x.over(), -2);
        s.due("tell(0)", x.tell(0), -2);
        s.due("lean(3)", x.lean(3), Long.MIN_VALUE);
        s.due("octet(0)", x.octet(0), -1);
        s.due("undo()", x.undo(), -1);
    }

    private void feed() {
        s.says("2", "Twenty bytes come behind the TAPE,");
        KeptApart x = new KeptApart();
        s.due("a first feed", x.feed('s' << 24 | 'h' << 16 | 'i' << 8 | 'p', ' ' << 24 | 'b' << 16 | 'a' << 8 | 'y',
            's' << 24 | '6' << 16 | 'r' << 8 | 'o', 'w' << 24 | 's' << 16 | '4' << 8 | 'h', 'o' << 24 | 'l' << 16 | 'd' << 8 | '3'), 20);
        s.due("behind it", x.feed('d' << 24 | 'e' << 16 | 'c' << 8 | 'k', '2' << 24 | ';' << 16 | 'w' << 8 | 'a',
            'l' << 24 | 'l' << 16 | '4' << 8 | ';', 'k' << 24 | 'i' << 16 | 'n' << 8 | 'd', ';' << 24 | ' ' << 16 | ' ' << 8 | '\n'), 40);
        s.due("ship()", x.ship(), 3);
        s.due("TIERS on deck", x.count(3), 2);
        s.due("wall(4)", x.wall(4), 1);
        s.due("kind(0)", x.kind(0), 0);

        s.says("2", "four of each number, the highest first: how many it has;");
        // a byte above 127 at each place of a number, the sign's bit among them: it is one byte, no more
        for (int at = 0; at < 20; at++) {
            int[] n = new int[5];
            for (int i = 0; i < 20; i++) {
                n[i / 4] |= (i < at ? ' ' : i == at ? 255 : 'a') << 24 - 8 * (i % 4);
            }
            x = new KeptApart();
            s.due("feed with 255 at " + at, x.feed(n[0], n[1], n[2], n[3], n[4]), 20);
            s.due("ship()", x.ship(), -4);
            s.due("the place of 255", x.fault(1), at);
        }

        s.says("2", "NONE, and none come, if it would have more than 900.");
        x = new KeptApart();
        Texts.feed(x, SHIP + " ".repeat(880 - SHIP.length()));
        s.due("with 880 bytes 900 are reached", x.feed(0x20202020, 0x20202020, 0x20202020, 0x20202020, 0x20202020), 900);
        s.due("with 900", x.feed(0x23232323, 0, 0, 0, 0), -1);
        s.due("count(10)", x.count(10), 900);
        for (int left = 899; left > 880; left--) {
            s.due("end(" + left + ")", x.end(left), left);
            s.due("feed with " + left, x.feed(0x23232323, 0x23232323, 0x23232323, 0x23232323, 0x23232323), -1);
            s.due("count(10)", x.count(10), left);
        }
        s.due("the text is what it was", x.ship(), 1);
        s.due("an empty tape has room", x.feed(0, 0, 0, 0, 0), 20);
    }

    private void end() {
        s.says("3", "The TAPE has its first n bytes alone: n;");
        KeptApart x = new KeptApart();
        s.due("end(0) of an empty tape", x.end(0), 0);
        Texts.feed(x, SHIP + "#");
        s.due("end() of all bytes", x.end(SHIP.length() + 1), SHIP.length() + 1);
        s.due("end() of all but one", x.end(SHIP.length()), SHIP.length());
        s.due("count(10)", x.count(10), SHIP.length());
        s.due("ship()", x.ship(), 1);
        Texts.feed(x, SHIP);
        s.due("end(0)", x.end(0), 0);
        s.due("an empty text", x.ship(), -4);
        s.due("its place", x.fault(1), 0);
        // what is cut off goes on no word and no number
        Texts.feed(x, SHIP + "kindx");
        x.end(SHIP.length() + 4);
        x.ship();
        s.due("a word cut off: the end's place", x.fault(1), SHIP.length() + 4);
        Texts.feed(x, SHIP + "wall 19;");
        x.end(SHIP.length() + 6);
        x.ship();
        s.due("a number cut off: the end's place", x.fault(1), SHIP.length() + 6);
        x.feed(0, 0, 0, 0, 0);
        s.due("end(7)", x.end(7), 7);
        s.due("feed() comes behind the first 7", x.feed(0, 0, 0, 0, 0), 27);
        for (int i = 0; i < 43; i++) {
            x.feed(0, 0, 0, 0, 0);
        }
        s.due("end(887), the most of 7 and twenties", x.end(887), 887);
        x.end(880);
        x.feed(0, 0, 0, 0, 0);
        s.due("end(900)", x.end(900), 900);

        s.says("3", "NONE, and nothing happens, if it has not so many, or n is below 0.");
        s.due("end(901)", x.end(901), -1);
        s.due("end(-1)", x.end(-1), -1);
        for (int n : EXTREMES) {
            s.due("end(" + n + ")", x.end(n), -1);
        }
        s.due("count(10)", x.count(10), 900);
        x.end(0);
        s.due("end(1) of an empty tape", x.end(1), -1);
        s.due("end(-1) of an empty tape", x.end(-1), -1);
        Texts.feed(x, SHIP);
        s.due("end() of one more", x.end(SHIP.length() + 1), -1);
        s.due("end(-1)", x.end(-1), -1);
        s.due("the text is what it was", x.ship(), 1);
    }

    private void shipCall() {
        s.says("4", "The TAPE (empty then) tells the SHIP");
        KeptApart x = new KeptApart();
        s.due("ship()", Texts.ship(x, SHIP), 1);
        s.due("count(10)", x.count(10), 0);
        s.due("count(0)", x.count(0), 3);
        s.due("ship() again, of an empty tape", x.ship(), -4);
        s.due("the end ahead of a ship", x.fault(0), 1);
        s.due("the SHIP is there still", x.count(0), 3);

        s.says("4", "(in place of another;");
        s.due("all there can be", Texts.ship(x, FULL), 70);
        x.loads();
        s.due("a small one in its place", Texts.ship(x, "ship bays 1 rows 1 hold 1 deck 0;"), 1);
        int[] small = {1, 1, 1, 0, 0, 0, 0, 999, 999, 0, 0};
        for (int what = 0; what < small.length; what++) {
            s.due("count(" + what + ")", x.count(what), small[what]);
        }
        s.due("level(1, 0)", x.level(1, 0), -2);
        s.due("at(0)", x.at(0), -1);
        s.due("at(1)", x.at(1), -2);
        s.due("weighs(0, 0, 0)", x.weighs(0, 0, 0), 0);
        s.due("undo()", x.undo(), -1);
        s.due("another one in its place", Texts.ship(x, "ship bays 6 rows 4 hold 3 deck 2;kind;kind;kind;level 2 across 1 along 1;"), 5);
        nothingOfAnother(x);
        s.due("and again", Texts.ship(x, "ship bays 6 rows 4 hold 3 deck 2;kind;kind;kind;level 2 across 1 along 1;"), 5);
        nothingOfAnother(x);
        s.due("all there can be", Texts.ship(x, FULL), 70);
        s.due("a FAULT behind it", Texts.ship(x, FULL + "bears 1 1;"), -4);
        s.due("all there can be, told again behind itself", Texts.ship(x, FULL), 70);
        s.due("and again", Texts.ship(x, FULL), 70);

        s.says("4", "what LOADING, SHIFTS told last is gone,");
        String two = "ship bays 1 rows 2 hold 1 deck 0;kind;box 0 weight 1;";
        x = s.ship(two);
        s.due("greedy()", x.greedy(), 0);
        s.due("shifts(0, 1, 1)", x.shifts(0, 1, 1), 0);
        s.due("told(0)", x.told(0), 0);
        s.due("shift(2, 1)", x.shift(2, 1), 0);
        s.due("the same text again", Texts.ship(x, two), 3);
        s.due("told(0)", x.told(0), -6);
        s.due("takes()", x.takes(), -6);
        s.due("shift(2, 1)", x.shift(2, 1), -1);

        s.says("4", "OUT stays)");
        s.due("tell(0)", x.tell(0), 3);
        s.due("another text", Texts.ship(x, SHIP), 1);
        s.due("OUT", Texts.out(x), "..\n");
        s.due("count(11)", x.count(11), 3);

        s.says("4", ": how many LINES.");
        s.due("one", Texts.ship(x, SHIP), 1);
        s.due("the most", Texts.ship(x, FULL), 70);

        s.says("4", "-4: a FAULT (the TAPE is empty, all else stays).");
        x.load(1);
        x.greedy();
        x.takes();
        x.tell(5);
        x.shifts(0, 1, 1);
        String out = Texts.out(x);
        int place = x.box(23, 3);
        int told = x.told(23);
        s.due("a FAULT", Texts.ship(x, SHIP + "kind;box 0 weight 1;box 0 weight 100;"), -4);
        s.due("count(10)", x.count(10), 0);
        int[] full = {6, 4, 3, 3, 7, 24};
        for (int what = 0; what < full.length; what++) {
            s.due("count(" + what + ")", x.count(what), full[what]);
        }
        s.due("count(7)", x.count(7), 998);
        s.due("count(8)", x.count(8), 997);
        s.due("acts", x.count(9), 1);
        s.due("box(23, 3)", x.box(23, 3), place);
        s.due("told(23)", x.told(23), told);
        s.due("OUT", Texts.out(x), out);
        s.due("the act can be undone", x.undo(), 0);
        s.due("count(6)", x.count(6), 0);
        x = new KeptApart();
        s.due("a FAULT with no SHIP", Texts.ship(x, "ship bays 1"), -4);
        s.due("count(10)", x.count(10), 0);
        s.due("no SHIP still", x.over(), -2);
    }

    /** A great ship with three kinds and level 2 alone, behind one that had all there can be. */
    private void nothingOfAnother(KeptApart x) {
        int[] due = {6, 4, 3, 2, 3, 0, 0, 999, 999, 0, 0};
        for (int what = 0; what < due.length; what++) {
            s.due("count(" + what + ")", x.count(what), due[what]);
        }
        for (int bay = 0; bay < 5; bay++) {
            s.due("wall(" + bay + ")", x.wall(bay), 0);
        }
        int[] level = {1, 1, 0, 0};
        for (int what = 0; what < 4; what++) {
            s.due("level(1, " + what + ")", x.level(1, what), -2);
            s.due("level(2, " + what + ")", x.level(2, what), level[what]);
        }
        for (int k = 0; k < 3; k++) {
            s.due("kind(" + k + ")", x.kind(k), 0);
            s.due("apart(0, " + k + ")", x.apart(0, k), 0);
        }
        s.due("kind(3)", x.kind(3), -2);
        s.due("between(0, 119, 2)", x.between(0, 119, 2), 0);
        s.due("free(0)", x.free(0), 120);
    }

    private void faultCall() {
        s.says("5", "Of the latest ship(), what 0: its FAULT, 0 without,");
        KeptApart x = new KeptApart();
        Texts.ship(x, SHIP + "wall 9;");
        s.due("fault(0)", x.fault(0), 2);
        Texts.feed(x, SHIP);
        s.due("fault(0), the text not being told yet", x.fault(0), 2);
        x.ship();
        s.due("fault(0) without", x.fault(0), 0);
        Texts.ship(x, "ship;");
        s.due("fault(0) of the latest", x.fault(0), 1);

        s.says("5", "1: its place (NONE without).");
        s.due("fault(1)", x.fault(1), 4);
        Texts.ship(x, SHIP);
        s.due("fault(1) without", x.fault(1), -1);
        Texts.feed(x, " ".repeat(900));
        x.ship();
        s.due("the end of 900 blanks", x.fault(1), 900);
        x.ship();
        s.due("the end of nothing", x.fault(1), 0);

        s.says("5", "NONE for another what, and ahead of any (what 1).");
        s.due("fault(2)", x.fault(2), -1);
        s.due("fault(-1)", x.fault(-1), -1);
        for (int what : EXTREMES) {
            s.due("fault(" + what + ")", x.fault(what), -1);
        }
        x = new KeptApart();
        s.due("fault(1) ahead of any", x.fault(1), -1);
        s.due("fault(0) ahead of any", x.fault(0), 0);
        s.due("fault(2) ahead of any", x.fault(2), -1);
    }

    private void count() {
        s.says("6", "0 BAYS, 1 ROWS, 2 TIERS in the hold, 3 on deck, 4 KINDS, 5 BOXES,");
        KeptApart x = s.ship("ship bays 5 rows 4 hold 0 deck 3;kind;kind;box 0 weight 1;");
        int[] due = {5, 4, 0, 3, 2, 1};
        int[] least = {1, 1, 1, 0, 0, 0};
        KeptApart y = s.ship("ship bays 1 rows 1 hold 1 deck 0;");
        for (int what = 0; what < 6; what++) {
            s.due("count(" + what + ")", x.count(what), due[what]);
            s.due("the least count(" + what + ")", y.count(what), least[what]);
        }
        x.books(1, 1, 1);
        s.due("count(5) with one booked", x.count(5), 2);

        s.says("6", "6 BOXES that lie,");
        s.due("count(6)", x.count(6), 0);
        x.puts(1, 0);
        s.due("count(6)", x.count(6), 1);
        x.lifts(1);
        s.due("count(6)", x.count(6), 0);

        s.says("6", "7 what a STACK in the hold bears, 8 on deck,");
        s.due("count(7)", x.count(7), 999);
        y = s.ship(SHIP + "bears 1 999;");
        s.due("count(7)", y.count(7), 1);
        s.due("count(8)", y.count(8), 999);
        y = s.ship(SHIP + "bears 999 1;");
        s.due("count(7)", y.count(7), 999);
        s.due("count(8)", y.count(8), 1);

        s.says("6", "9 acts that can be undone");
        s.due("count(9)", x.count(9), 3);
        x.undo();
        s.due("count(9)", x.count(9), 2);

        s.says("6", "(all 0 without a SHIP),");
        y = new KeptApart();
        Texts.feed(y, "ship");
        for (int what = 0; what <= 9; what++) {
            s.due("count(" + what + ")", y.count(what), 0);
        }

        s.says("6", "10 bytes of the TAPE, 11 of OUT.");
        s.due("count(10) without a SHIP", y.count(10), 4);
        s.due("count(11) without a SHIP", y.count(11), 0);
        x.tell(0);
        s.due("count(11)", x.count(11), 15);
        x.feed(0, 0, 0, 0, 0);
        s.due("count(10)", x.count(10), 20);

        s.says("6", "NONE for others.");
        for (KeptApart z : new KeptApart[] {x, y}) {
            s.due("count(12)", z.count(12), -1);
            s.due("count(-1)", z.count(-1), -1);
            for (int what : EXTREMES) {
                s.due("count(" + what + ")", z.count(what), -1);
            }
        }
    }

    /** A line as tokens: wherever something else stands, or the text ends, that is fault 1 there. */
    private void line(String ahead, String line) {
        String[] tokens = line.split(" ");
        s.text(0, ahead + line.replace(" ;", ";"));
        for (int i = 0; i < tokens.length; i++) {
            StringBuilder sb = new StringBuilder(ahead);
            for (int k = 0; k < i; k++) {
                sb.append(tokens[k]).append(' ');
            }
            String begun = sb.toString();
            List<String> wrong = new ArrayList<>(List.of("zz", "#", tokens[i] + "x", "-1", "ship"));
            if (i > 0) {
                wrong.add("");
                wrong.add("kind");
            }
            if (Character.isDigit(tokens[i].charAt(0))) {
                wrong.remove(tokens[i] + "x");
                wrong.add(";");
            } else {
                wrong.add("1");
            }
            if (tokens[i].equals(";")) {
                wrong.remove(";x");
                wrong.add(":");
            }
            for (String w : wrong) {
                if (!w.equals(tokens[i])) {
                    s.text(1, begun + "|" + w);
                }
            }
        }
    }

    private void lines() {
        s.says("I", "TEXT: {LINE ;}.");
        s.text(0, SHIP);
        s.text(0, SHIP + "kind;kind;");
        s.text(1, SHIP + "|;");
        s.text(1, SHIP + "kind;|;");
        s.text(1, SHIP + "kind|");
        s.text(1, "|;" + SHIP);

        s.says("I", "LINE: ship bays N rows N hold N deck N");
        line("", "ship bays 3 rows 2 hold 2 deck 1 ;");
        s.says("I", "| wall B [door]");
        line(SHIP, "wall 0 ;");
        line(SHIP, "wall 0 door ;");
        s.says("I", "| bears N N");
        line(SHIP, "bears 1 1 ;");
        s.says("I", "| level L across N along N [walls N] [hatch]");
        line(SHIP, "level 1 across 1 along 1 ;");
        line(SHIP, "level 1 across 1 along 1 walls 1 ;");
        line(SHIP, "level 1 across 1 along 1 hatch ;");
        line(SHIP, "level 1 across 1 along 1 walls 1 hatch ;");
        s.text(1, SHIP + "level 1 across 1 along 1 hatch |walls 1;");
        s.text(1, SHIP + "level 1 across 1 along 1 walls 1 |walls 1;");
        s.says("I", "| kind [deck | hold]");
        line(SHIP, "kind ;");
        line(SHIP, "kind deck ;");
        line(SHIP, "kind hold ;");
        s.text(1, SHIP + "kind deck |hold;");
        s.text(1, SHIP + "kind hold |deck;");
        s.says("I", "| apart K K L");
        line(SHIP + LEVEL + "kind;", "apart 0 0 1 ;");
        s.says("I", "| box K weight N [port N].");
        line(SHIP + "kind;", "box 0 weight 1 ;");
        line(SHIP + "kind;", "box 0 weight 1 port 1 ;");
    }

    /** The least and the greatest number that may stand between two texts, and one beyond. */
    private void bounds(String ahead, int least, int most, String behind) {
        s.text(0, ahead + least + behind);
        s.text(0, ahead + most + behind);
        s.text(0, ahead + "000000000000" + most + behind);
        s.text(2, ahead + "|" + (most + 1) + behind);
        s.text(2, ahead + "|4294967296" + behind);
        s.text(2, ahead + "|4294967297" + behind);
        s.text(2, ahead + "|18446744073709551617" + behind);
        if (least > 0) {
            s.text(2, ahead + "|" + (least - 1) + behind);
        } else {
            s.text(1, ahead + "|-1" + behind);
        }
    }

    private void shipLine() {
        s.says("I", "ship is the first LINE and no other:");
        s.text(1, SHIP + "|" + SHIP);
        s.text(1, SHIP + "kind;|" + SHIP);
        s.text(1, "|kind;" + SHIP);
        s.text(1, "|wall 0;" + SHIP);

        s.says("I", "BAYS 1 .. 6,");
        bounds("ship bays ", 1, 6, " rows 1 hold 1 deck 1;");
        s.says("I", "ROWS 1 .. 4,");
        bounds("ship bays 1 rows ", 1, 4, " hold 1 deck 1;");
        s.says("I", "TIERS in the hold, on deck 0 .. 3 each");
        bounds("ship bays 1 rows 1 hold ", 0, 3, " deck 1;");
        bounds("ship bays 1 rows 1 hold 1 deck ", 0, 3, ";");
        s.due("places of the least ship", s.ship("ship bays 1 rows 1 hold 0 deck 1;").free(0), 1);
        s.due("places of the greatest ship", s.ship("ship bays 6 rows 4 hold 3 deck 3;").free(0), 144);

        s.says("I", "(one at least together, else 2 at deck's N).");
        bounds("ship bays 1 rows 1 hold 0 deck ", 1, 3, ";");
        s.text(0, "ship bays 1 rows 1 hold 1 deck 0;");
        s.text(2, "ship bays 1 rows 1 hold 0 deck |0;");
        s.text(2, "ship bays 1 rows 1 hold 00 deck |000;");
    }

    private void wallAndBears() {
        s.says("I", "wall B: between BAYS B and B and 1 (0 .. BAYS less 2),");
        for (int bays = 2; bays <= 6; bays++) {
            bounds("ship bays " + bays + " rows 1 hold 1 deck 0;wall ", 0, bays - 2, ";");
        }
        s.text(2, "ship bays 1 rows 1 hold 1 deck 0;wall |0;");
        KeptApart x = s.ship("ship bays 6 rows 1 hold 1 deck 0;wall 4;wall 0;");
        int[] shut = {0, 1, 1, 1, 1, 2};
        for (int bay = 0; bay < 6; bay++) {
            s.due("SHUT walls between BAY 0 and " + bay, x.between(0, bay, 2), shut[bay]);
        }

        s.says("I", "with a DOOR (open at first) or none.");
        x = s.ship("ship bays 6 rows 1 hold 1 deck 0;wall 4 door;wall 3;wall 0 door;");
        int[] walls = {2, 0, 0, 1, 2};
        for (int bay = 0; bay < 5; bay++) {
            s.due("wall(" + bay + ")", x.wall(bay), walls[bay]);
        }

        s.says("I", "bears: a stack in the hold, on deck 1 .. 999,");
        bounds(SHIP + "bears ", 1, 999, " 5;");
        bounds(SHIP + "bears 5 ", 1, 999, ";");
        s.says("I", "once");
        s.text(3, SHIP + "bears 5 5;|bears 5 5;");
        s.text(0, SHIP + "kind;bears 5 5;kind;");
        s.says("I", "(999 both without).");
        x = s.ship(SHIP);
        s.due("count(7)", x.count(7), 999);
        s.due("count(8)", x.count(8), 999);
    }

    private void levels() {
        s.says("I", "LEVELS 1 .. 4, each told once:");
        bounds(SHIP + "level ", 1, 4, " across 1 along 1;");
        for (int l = 1; l <= 4; l++) {
            s.text(3, SHIP + "level " + l + " across 1 along 1;level |" + l + " across 1 along 1;");
        }
        KeptApart x = s.ship(SHIP + "level 4 across 4 along 1;level 1 across 1 along 1;level 3 across 3 along 1;level 2 across 2 along 1;");
        for (int l = 1; l <= 4; l++) {
            s.due("level(" + l + ", 0)", x.level(l, 0), l);
        }
        s.says("I", "across 1 .. 9,");
        bounds(SHIP + "level 1 across ", 1, 9, " along 1;");
        s.says("I", "along 1 .. 9,");
        bounds(SHIP + "level 1 across 1 along ", 1, 9, ";");
        s.says("I", "walls 1 .. 5");
        bounds(SHIP + "level 1 across 1 along 1 walls ", 1, 5, ";");
        s.says("I", "(0 without).");
        s.due("level(1, 2)", s.ship(SHIP + "level 1 across 9 along 9 hatch;").level(1, 2), 0);
        s.due("level(1, 2)", s.ship(SHIP + "level 1 across 9 along 9 walls 5;").level(1, 2), 5);
    }

    private void kindsAndApart() {
        s.says("I", "KINDS 0 .. 6, as they stand.");
        KeptApart x = s.ship(SHIP + "kind;kind deck;kind hold;kind hold;kind deck;kind;kind deck;");
        int[] where = {0, 1, 2, 2, 1, 0, 1, -2};
        for (int k = 0; k < 8; k++) {
            s.due("kind(" + k + ")", x.kind(k), where[k]);
        }
        s.says("I", "apart: KINDS (they may be one),");
        s.due("apart(0, 0)", s.ship(SHIP + LEVEL + "kind;apart 0 0 1;").apart(0, 0), 1);
        bounds(SHIP + LEVEL + "kind;".repeat(7) + "apart ", 0, 6, " 3 1;");
        bounds(SHIP + LEVEL + "kind;".repeat(7) + "apart 3 ", 0, 6, " 1;");
        s.says("I", "a LEVEL, told ahead.");
        String four = "level 1 across 1 along 1;level 2 across 1 along 1;level 3 across 1 along 1;level 4 across 1 along 1;";
        bounds(SHIP + four + "kind;apart 0 0 ", 1, 4, ";");
        s.text(2, SHIP + "kind;apart 0 0 |1;" + LEVEL);
        s.text(2, SHIP + LEVEL + "apart |0 0 1;kind;");
        s.text(2, SHIP + LEVEL + "kind;apart 0 |1 1;kind;");
    }

    private void boxes() {
        s.says("I", "BOXES 0 .. 23, as they stand:");
        StringBuilder sb = new StringBuilder(SHIP + "kind;");
        for (int b = 0; b < 24; b++) {
            sb.append("box 0 weight ").append(99 - b).append(';');
        }
        KeptApart x = s.ship(sb.toString());
        for (int b = 0; b < 24; b++) {
            s.due("box(" + b + ", 1)", x.box(b, 1), 99 - b);
        }
        s.due("box(24, 1)", x.box(24, 1), -2);
        s.says("I", "K told ahead,");
        bounds(SHIP + "kind;".repeat(7) + "box ", 0, 6, " weight 1;");
        s.text(2, SHIP + "box |0 weight 1;kind;");
        s.says("I", "weight 1 .. 99,");
        bounds(SHIP + "kind;box 0 weight ", 1, 99, ";");
        s.says("I", "port 1 .. 5");
        bounds(SHIP + "kind;box 0 weight 1 port ", 1, 5, ";");
        s.says("I", "(1 without);");
        s.due("box(0, 2)", s.ship(SHIP + "kind;box 0 weight 99;").box(0, 2), 1);
        s.says("I", "they lie nowhere at first.");
        for (int b = 0; b < 24; b++) {
            s.due("box(" + b + ", 3)", x.box(b, 3), -1);
        }
        for (int place = 0; place < 18; place++) {
            s.due("at(" + place + ")", x.at(place), -1);
        }
    }

    private void tokens() {
        s.says("I", "TOKENS, blanks (32, 10) aside,");
        s.text(0, "  \n\n ship\nbays 3\n \nrows 2 hold 2 deck 1\n;\n ");
        s.text(0, "ship bays 3rows2hold 2deck1 ;kind\n;");
        for (int c = 0; c < 256; c++) {
            boolean blank = c == 32 || c == 10;
            boolean fine = blank || c == ';';
            String text = SHIP + "kind|" + (char) c;
            if (blank) {
                s.text(0, text.replace("|", "") + ";");
            } else if (c != '|' && !fine && !(c >= 'a' && c <= 'z')) {
                s.text(1, text + ";");
            }
        }

        s.says("I", "the longest: words (a .. z),");
        s.text(1, SHIP + "|kinddeck;");
        s.text(1, SHIP + "|kin d;");
        s.text(1, SHIP + "kind |d eck;");
        s.text(1, SHIP + "kind |decka;");
        s.text(1, SHIP + "kind |deckz;");
        s.text(1, SHIP + "kind |Deck;");
        s.text(1, SHIP + "kind deck|Z;");
        s.text(1, SHIP + "|" + "k".repeat(800));

        s.says("I", "numbers (digits),");
        s.text(1, SHIP + "wall 0 |0;");
        s.text(1, SHIP + "bears 1 2 |3;");
        s.text(0, SHIP + "bears 1 2;");
        s.text(0, SHIP + "bears 12 34;");
        s.text(1, SHIP + "bears 123|;");
        s.text(2, SHIP + "bears |" + "9".repeat(800) + " 1;");
        s.text(0, SHIP + "bears " + "0".repeat(800) + "999 1;");

        s.says("I", "else single bytes.");
        s.text(1, SHIP + "kind;|;;");
        s.text(1, SHIP + "wall |-0;");
        s.text(1, SHIP + "wall |+0;");
        s.text(1, SHIP + "wall 0|.0;");
    }

    private void firstFault() {
        s.says("I", "FAULTS, of several the one whose first byte (a TOKEN's; the end's) is least,");
        s.text(2, "ship bays |0 rows 0 hold 9 deck 9 #");
        s.text(1, "ship bays 1 |# rows 0");
        s.text(3, SHIP + "wall 0;wall |0 zz;wall 9;");
        s.text(4, SHIP + "kind;".repeat(7) + "|kind zz");
        s.text(3, SHIP + "bears 1 1;|bears 0 0");
        s.text(3, SHIP + LEVEL + "kind;apart 0 0 1;apart 0 |0 9");
        s.text(2, SHIP + LEVEL + "kind;apart 0 0 1;apart |1 0 9");
        s.text(1, SHIP + "level 1|");
        s.text(1, SHIP + "level 1   \n|");
        s.text(2, SHIP + "kind;box 0 weight |0");

        s.says("I", "of one byte the least number:");
        // what can't stand there is no more than that, whatever it were elsewhere
        s.text(1, SHIP + "kind;".repeat(7) + "wall |kind;");
        s.text(1, SHIP + "bears 1 1;kind |bears 1 1;");
        s.text(1, SHIP + "kind;" + "box 0 weight 1;".repeat(24) + "wall 0 |box 0 weight 1;");
        s.text(1, SHIP + "wall 0;kind |0;");
        s.text(2, SHIP + "kind;kind;" + LEVEL + "apart 0 1 1;apart 0 |2 1;");
    }

    private void faultsOne() {
        s.says("I", "1 a TOKEN that is none, or can't stand there");
        s.text(1, SHIP + "|#");
        s.text(1, SHIP + "|walls 0;");
        s.text(1, SHIP + "|door;");
        s.text(1, SHIP + "|0;");
        s.text(1, SHIP + "wall |wall;");
        s.text(1, SHIP + "level 1 across |across;");
        s.text(1, SHIP + "wall 0 door |0;");

        s.says("I", "(the end ahead of a ship, too).");
        s.text(1, "|");
        s.text(1, " |");
        s.text(1, "\n \n|");
        s.text(1, "ship|");
        s.text(1, "ship bays 1 rows 1 hold 1 deck 1|");
    }

    private void faultsTwo() {
        s.says("I", "2 a number out of its bounds");
        s.text(2, "ship bays |7 rows 4 hold 3 deck 3;");
        s.text(2, SHIP + "bears 999 |1000;");
        s.says("I", "(a KIND, a LEVEL that is not told ahead, too).");
        s.text(2, SHIP + LEVEL + "apart |0 0 1;");
        s.text(2, SHIP + LEVEL + "kind;apart 0 |1 1;");
        s.text(2, SHIP + LEVEL + "kind;apart 0 0 |2;");
        s.text(2, SHIP + LEVEL + "kind;apart 0 0 |2;level 2 across 1 along 1;");
        s.text(2, SHIP + "box |0 weight 1;");
        s.text(2, SHIP + "kind;box |1 weight 1;kind;");
    }

    private void faultsThree() {
        s.says("I", "3 a wall, a level told again (at its number),");
        s.text(3, SHIP + "wall 1;wall |1;");
        s.text(3, SHIP + "wall 1 door;wall |1;");
        s.text(3, SHIP + "wall 1;wall 0;wall |01 door;");
        s.text(3, SHIP + LEVEL + "kind;level |1 across 2 along 2;");
        s.text(3, SHIP + LEVEL + "level   |0001 across 2 along 2;");
        s.says("I", "bears told again (at the word),");
        s.text(3, SHIP + "bears 999 999;|bears 999 999;");
        s.text(3, SHIP + "bears 1 1;kind;|bears");
        s.says("I", "two KINDS told apart again (at the second one).");
        String kinds = SHIP + LEVEL + "level 2 across 1 along 1;kind;kind;kind;";
        s.text(3, kinds + "apart 0 1 1;apart 0 |1 1;");
        s.text(3, kinds + "apart 0 1 1;apart 1 |0 2;");
        s.text(3, kinds + "apart 2 2 1;apart 2 |2 1;");
        s.text(0, kinds + "apart 0 1 1;apart 1 2 1;apart 2 0 1;apart 0 0 1;apart 1 1 1;apart 2 2 1;");
    }

    private void faultsFour() {
        s.says("I", "4 an eighth kind, a 25th box, at the word.");
        s.text(0, SHIP + "kind deck;".repeat(7));
        s.text(4, SHIP + "kind deck;".repeat(7) + "|kind;");
        s.text(4, SHIP + "kind;".repeat(7) + "bears 1 1;|kind hold;");
        s.text(0, SHIP + "kind;" + "box 0 weight 1;".repeat(24));
        s.text(4, SHIP + "kind;" + "box 0 weight 1;".repeat(24) + "|box 0 weight 1;");
        s.text(4, SHIP + "kind;" + "box 0 weight 1;".repeat(24) + "kind;|box");
    }
}
