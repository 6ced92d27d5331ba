/** Promises 2 to 5: the tape, texts, and their faults. */
public final class FaultsTest {
    private static final Checks CHECKS = new Checks();
    private static final String SHIP = "ship bays 3 rows 2 hold 2 deck 1;";

    public static void main(String[] args) {
        tape();
        grammar();
        bounds();
        again();
        tooMany();
        firstOfSeveral();
        whatStays();
        CHECKS.close("FaultsTest");
    }

    /** The text with a bar where the fault is due; no bar: no fault. */
    private static void text(int fault, String marked) {
        KeptApart x = new KeptApart();
        int at = marked.indexOf('|');
        String text = at < 0 ? marked : marked.substring(0, at) + marked.substring(at + 1);
        int answer = Texts.ship(x, text);
        CHECKS.due("faulty? " + marked, answer == -4 ? 1 : 0, fault == 0 ? 0 : 1);
        CHECKS.due("fault(0) of " + marked, x.fault(0), fault);
        CHECKS.due("fault(1) of " + marked, x.fault(1), at);
        CHECKS.due("the tape is empty behind " + marked, x.count(10), 0);
        CHECKS.due("no ship of " + marked, x.over(), fault == 0 ? 0 : -2);
    }

    private static void lines(int lines, String text) {
        KeptApart x = new KeptApart();
        CHECKS.due("ship() of " + text, Texts.ship(x, text), lines);
        CHECKS.due("fault(0) of " + text, x.fault(0), 0);
        CHECKS.due("fault(1) of " + text, x.fault(1), -1);
    }

    private static void tape() {
        KeptApart x = new KeptApart();
        CHECKS.due("fault(0) ahead of any", x.fault(0), 0);
        CHECKS.due("fault(1) ahead of any", x.fault(1), -1);
        CHECKS.due("fault(2)", x.fault(2), -1);
        CHECKS.due("fault(-1)", x.fault(-1), -1);
        CHECKS.due("end(0) of an empty tape", x.end(0), 0);
        CHECKS.due("end(1) of an empty tape", x.end(1), -1);
        CHECKS.due("end(-1)", x.end(-1), -1);
        for (int i = 1; i <= 45; i++) {
            CHECKS.due("feed " + i, x.feed(0, 0, 0, 0, 0), 20 * i);
        }
        CHECKS.due("feed beyond 900", x.feed(0, 0, 0, 0, 0), -1);
        CHECKS.due("count(10) of a full tape", x.count(10), 900);
        CHECKS.due("end(881)", x.end(881), 881);
        CHECKS.due("feed with 19 left", x.feed(0, 0, 0, 0, 0), -1);
        CHECKS.due("nothing came", x.count(10), 881);
        CHECKS.due("end(882)", x.end(882), -1);
        CHECKS.due("end(880)", x.end(880), 880);
        CHECKS.due("feed with 20 left", x.feed(0, 0, 0, 0, 0), 900);
        CHECKS.due("end(Integer.MIN_VALUE)", x.end(Integer.MIN_VALUE), -1);
        CHECKS.due("end(0)", x.end(0), 0);
        // what was cut off is gone: other bytes come in its place
        Texts.feed(x, SHIP + "kind;");
        x.end(SHIP.length());
        for (int[] r : Texts.rows("box 0 weight 1;")) {
            x.feed(r[0], r[1], r[2], r[3], r[4]);
        }
        CHECKS.due("a text with its tail cut off", x.ship(), -4);
        CHECKS.due("its fault", x.fault(0), 2);
        CHECKS.due("its place", x.fault(1), SHIP.length() + 4);
        // bytes above 127 are no tokens
        x.feed(0xff000000, 0, 0, 0, 0);
        CHECKS.due("a text of other bytes", x.ship(), -4);
        CHECKS.due("fault(1)", x.fault(1), 0);
        CHECKS.due("fault(0)", x.fault(0), 1);
    }

    private static void grammar() {
        text(1, "|");
        text(1, "  \n |");
        text(1, "|;");
        text(1, "|kind;");
        text(1, "|ships bays 1 rows 1 hold 1 deck 1;");
        text(1, "ship |bay 1 rows 1 hold 1 deck 1;");
        text(1, "ship bays |rows 1 hold 1 deck 1;");
        text(1, "ship bays 1 rows 1 hold 1 deck 1|");
        text(1, "ship bays 1 rows 1 hold 1 deck 1  |");
        text(1, "ship bays 1 rows 1 hold 1 deck |;");
        text(1, "ship rows".replace("rows", "|rows 1;"));
        text(1, SHIP + "|ship bays 1 rows 1 hold 1 deck 1;");
        text(1, SHIP + "|;");
        text(1, SHIP + "|7;");
        text(1, SHIP + "|Kind;");
        text(1, SHIP + "kind\t;".replace("\t", "|\t"));
        text(1, SHIP + "kind|\r;");
        text(1, SHIP + "kind |anywhere;");
        text(1, SHIP + "kind deck |hold;");
        text(1, SHIP + "kind |0;");
        text(1, SHIP + "kind |deckz;");
        text(1, SHIP + "kind |adeck;");
        text(1, SHIP + "kind |dec k;");
        text(1, SHIP + "kind deck|{;");
        text(1, SHIP + "kind deck|`;");
        text(1, SHIP + "wall 0|/;");
        text(1, SHIP + "wall 0|:;");
        text(1, SHIP + "wall |;");
        text(1, SHIP + "wall |door;");
        text(1, SHIP + "wall 0 |open;");
        text(1, SHIP + "wall 0 door |door;");
        text(1, SHIP + "wall 0 |1;");
        text(1, SHIP + "wall |-1;");
        text(1, SHIP + "bears 1|;");
        text(1, SHIP + "bears 1 1 |1;");
        text(1, SHIP + "level 1 |along 1 across 1;");
        text(1, SHIP + "level 1 across 1|;");
        text(1, SHIP + "level 1 across 1 along 1 hatch |walls 1;");
        text(1, SHIP + "level 1 across 1 along 1 walls |hatch;");
        text(1, SHIP + "level 1 across 1 along 1 hatch |hatch;");
        text(1, SHIP + "kind;apart 0|;");
        text(1, SHIP + "kind;apart 0 |,0 1;");
        text(1, SHIP + "kind;box 0|;");
        text(1, SHIP + "kind;box 0 |port 1 weight 1;");
        text(1, SHIP + "kind;box 0 weight 1 port|;");
        text(1, SHIP + "kind;box 0 weight 1 |1;");
        text(1, SHIP + "kind;box 0 weight 1|");
        text(0, SHIP);
        lines(1, SHIP);
        lines(1, "ship\nbays3rows2hold2deck1;");
        lines(1, "\n\n ship  bays 003 rows 0000000000000000000002 hold 2 deck 01 ; \n ");
        lines(2, SHIP + "level 4 across 9 along 9 walls 5 hatch;");
        lines(2, SHIP + "level 4 across 1 along 1 hatch;");
        lines(14, SHIP + "wall 0;wall 1 door;bears 1 999;level 1 across 1 along 1;level 2 across 1 along 1 walls 1;"
            + "kind;kind deck;kind hold;apart 0 0 1;apart 2 1 2;apart 0 2 2;box 2 weight 99 port 5;box 0 weight 1;");
    }

    private static void bounds() {
        text(2, "ship bays |0 rows 1 hold 1 deck 1;");
        text(2, "ship bays |7 rows 1 hold 1 deck 1;");
        text(2, "ship bays 1 rows |0 hold 1 deck 1;");
        text(2, "ship bays 1 rows |5 hold 1 deck 1;");
        text(2, "ship bays 1 rows 1 hold |4 deck 1;");
        text(2, "ship bays 1 rows 1 hold 1 deck |4;");
        text(2, "ship bays 1 rows 1 hold 0 deck |0;");
        text(2, "ship bays |4294967297 rows 1 hold 1 deck 1;");
        text(2, "ship bays |99999999999999999999999999999999999999999 rows 1 hold 1 deck 1;");
        text(0, "ship bays 6 rows 4 hold 0 deck 3;");
        text(0, "ship bays 1 rows 1 hold 3 deck 0;");
        text(2, "ship bays 1 rows 1 hold 1 deck 1;wall |0;");
        text(2, SHIP + "wall |2;");
        text(0, SHIP + "wall 1;wall 0;");
        text(2, SHIP + "bears |0 1;");
        text(2, SHIP + "bears 1 |0;");
        text(2, SHIP + "bears |1000 1;");
        text(2, SHIP + "bears 1 |1000;");
        text(2, SHIP + "level |0 across 1 along 1;");
        text(2, SHIP + "level |5 across 1 along 1;");
        text(2, SHIP + "level 1 across |0 along 1;");
        text(2, SHIP + "level 1 across |10 along 1;");
        text(2, SHIP + "level 1 across 1 along |0;");
        text(2, SHIP + "level 1 across 1 along |10;");
        text(2, SHIP + "level 1 across 1 along 1 walls |0;");
        text(2, SHIP + "level 1 across 1 along 1 walls |6;");
        text(2, SHIP + "kind;level 1 across 1 along 1;apart |1 0 1;");
        text(2, SHIP + "kind;level 1 across 1 along 1;apart 0 |1 1;");
        text(2, SHIP + "kind;level 1 across 1 along 1;apart 0 0 |2;");
        text(2, SHIP + "kind;level 1 across 1 along 1;apart 0 0 |0;");
        text(2, SHIP + "kind;level 1 across 1 along 1;apart 0 0 |5;");
        text(2, SHIP + "kind;apart 0 0 |1;level 1 across 1 along 1;");
        text(2, SHIP + "box |0 weight 1;kind;");
        text(2, SHIP + "kind;box |1 weight 1;");
        text(2, SHIP + "kind;box 0 weight |0;");
        text(2, SHIP + "kind;box 0 weight |100;");
        text(2, SHIP + "kind;box 0 weight 1 port |0;");
        text(2, SHIP + "kind;box 0 weight 1 port |6;");
    }

    private static void again() {
        text(3, SHIP + "wall 0;wall |0;");
        text(3, SHIP + "wall 0 door;wall |0 door;");
        text(3, SHIP + "level 2 across 1 along 1;level |2 across 1 along 1;");
        text(3, SHIP + "bears 1 1;|bears 1 1;");
        text(3, SHIP + "bears 999 999;|bears 1 1;");
        text(3, SHIP + "level 1 across 1 along 1;kind;kind;apart 0 1 1;apart 0 |1 1;");
        text(3, SHIP + "level 1 across 1 along 1;kind;kind;apart 0 1 1;apart 1 |0 1;");
        text(3, SHIP + "level 1 across 1 along 1;kind;apart 0 0 1;apart 0 |0 1;");
        text(0, SHIP + "level 1 across 1 along 1;kind;kind;apart 0 1 1;apart 0 0 1;apart 1 1 1;");
    }

    private static void tooMany() {
        text(0, SHIP + "kind;".repeat(7));
        text(4, SHIP + "kind;".repeat(7) + "|kind;");
        text(4, SHIP + "kind;".repeat(7) + "|kind what;");
        text(0, SHIP + "kind;" + "box 0 weight 1;".repeat(24));
        text(4, SHIP + "kind;" + "box 0 weight 1;".repeat(24) + "|box 9 weight 1;");
    }

    private static void firstOfSeveral() {
        text(2, "ship bays |9 rows 9 hold 9 deck 9 @");
        text(1, "ship bays 1 |@ rows 9 hold 9 deck 9");
        text(2, SHIP + "wall |9 kind; @");
        text(3, SHIP + "bears 1 1;|bears 0 0 @;");
        text(3, SHIP + "level 1 across 1 along 1;kind;apart 0 0 1;apart 0 |0 9;");
        text(1, SHIP + "wall 0|;wall 0".replace("|;", ";|@;"));
    }

    private static void whatStays() {
        KeptApart x = new KeptApart();
        Texts.ship(x, SHIP + "wall 0 door;kind;box 0 weight 7;");
        x.puts(0, 3);
        x.greedy();
        x.shifts(0, 1, 9);
        x.label(0);
        CHECKS.due("a faulty text", Texts.ship(x, "ship bays 1 rows 1 hold 1 deck 1;kind;box 0 weight 1;wall"), -4);
        CHECKS.due("its box lies", x.box(0, 3), 3);
        CHECKS.due("its bays", x.count(0), 3);
        CHECKS.due("its wall", x.wall(0), 2);
        CHECKS.due("its acts", x.count(9), 1);
        CHECKS.due("takes()", x.takes(), 0);
        CHECKS.due("shift(2, 1)", x.shift(2, 1), 0);
        CHECKS.due("OUT", Texts.out(x), "a 0 7 1 3");
        CHECKS.due("another text", Texts.ship(x, "ship bays 1 rows 1 hold 1 deck 1;kind;box 0 weight 1;"), 3);
        CHECKS.due("fault(0)", x.fault(0), 0);
        CHECKS.due("fault(1)", x.fault(1), -1);
        CHECKS.due("its box lies nowhere", x.box(0, 3), -1);
        CHECKS.due("nothing lies", x.at(0), -1);
        CHECKS.due("no wall", x.wall(0), -2);
        CHECKS.due("no acts", x.count(9), 0);
        CHECKS.due("undo()", x.undo(), -1);
        CHECKS.due("takes()", x.takes(), -6);
        CHECKS.due("told(0)", x.told(0), -6);
        CHECKS.due("shift(2, 1)", x.shift(2, 1), -1);
        CHECKS.due("OUT stays", Texts.out(x), "a 0 7 1 3");
    }
}
