import java.util.Arrays;

/**
 * Kept apart at sea: a ship told as a text, her boxes put and lifted, and kinds of goods that must not
 * lie too near to one another. What each call answers stands in the document, promise by promise.
 *
 * All rows are made with the object and used again, so that no call makes anything new.
 */
public final class KeptApart {
    public static final int NONE = -1;
    public static final int TOO_LONG = -3;
    public static final long NO_SUCH = Long.MIN_VALUE;

    private static final int REFUSED = -2;
    private static final int FAULTY = -4;
    private static final int STUCK = -5;
    private static final int UNTOLD = -6;
    private static final int PINNED = 7;

    private static final int MOST_BAYS = 6;
    private static final int MOST_ROWS = 4;
    private static final int MOST_TIERS = 3;
    private static final int MOST_PLACES = MOST_BAYS * MOST_ROWS * 2 * MOST_TIERS;
    private static final int MOST_LEVELS = 4;
    private static final int MOST_KINDS = 7;
    private static final int MOST_BOXES = 24;
    private static final int MOST_WEIGHT = 99;
    private static final int MOST_PORTS = 5;
    private static final int MOST_BEARING = 999;
    private static final int MOST_PUTS = 50000;
    private static final int MOST_SPAN = 8;
    private static final int MOST_ACTS = 12;
    private static final int MOST_SHIFTS = 2;

    /** The late box has the slot behind all booked ones: it obeys the same rules, yet nobody meets it. */
    private static final int LATE = MOST_BOXES;

    private static final int NO_WALL = 0;
    private static final int SOLID = 1;
    private static final int DOOR_OPEN = 2;
    private static final int DOOR_SHUT = 3;

    private static final int ANYWHERE = 0;
    private static final int DECK_ONLY = 1;
    private static final int HOLD_ONLY = 2;

    private final Reader reader = new Reader();
    private final History history = new History();
    private final Loader loader = new Loader();
    private final Shifter shifter = new Shifter();
    private final Survey survey = new Survey();
    private final Page page = new Page();
    private Vessel vessel = new Vessel();
    private boolean afloat = false;

    public KeptApart() {
    }

    public int feed(int a, int b, int c, int d, int e) {
        Tape tape = reader.tape;
        if (!tape.hasRoom(20)) {
            return NONE;
        }
        tape.append(a);
        tape.append(b);
        tape.append(c);
        tape.append(d);
        tape.append(e);
        return tape.size;
    }

    public int end(int n) {
        if (!within(n, 0, reader.tape.size)) {
            return NONE;
        }
        reader.tape.size = n;
        return n;
    }

    public int ship() {
        int lines = reader.readText();
        reader.tape.size = 0;
        if (reader.fault != 0) {
            return FAULTY;
        }
        vessel = reader.handOver(vessel);
        afloat = true;
        history.forget();
        loader.forget();
        shifter.forget();
        return lines;
    }

    public int fault(int what) {
        switch (what) {
            case 0: return reader.fault;
            case 1: return reader.faultPlace;
            default: return NONE;
        }
    }

    public int count(int what) {
        if (what == 10) {
            return reader.tape.size;
        }
        if (what == 11) {
            return page.size;
        }
        if (!within(what, 0, 9)) {
            return NONE;
        }
        return afloat ? countAboard(what) : 0;
    }

    private int countAboard(int what) {
        switch (what) {
            case 0: return vessel.hull.bays;
            case 1: return vessel.hull.rows;
            case 2: return vessel.hull.hold;
            case 3: return vessel.hull.deck;
            case 4: return vessel.rules.kinds;
            case 5: return vessel.cargo.boxes;
            case 6: return vessel.cargo.countLying();
            case 7: return vessel.hull.bearsHold;
            case 8: return vessel.hull.bearsDeck;
            default: return history.size;
        }
    }

    public int wall(int bay) {
        return isBay(bay) && isBay(bay + 1) ? vessel.hull.wallAt(bay) : REFUSED;
    }

    public int level(int l, int what) {
        return isLevel(l) && within(what, 0, 3) ? vessel.rules.ofLevel(l, what) : REFUSED;
    }

    public int kind(int k) {
        return isKind(k) ? vessel.rules.whereOf(k) : REFUSED;
    }

    public int apart(int a, int b) {
        return isKind(a) && isKind(b) ? vessel.rules.levelOf(a, b) : REFUSED;
    }

    public int box(int b, int what) {
        if (!isBox(b)) {
            return REFUSED;
        }
        switch (what) {
            case 0: return vessel.cargo.kindOf(b);
            case 1: return vessel.cargo.weightOf(b);
            case 2: return vessel.cargo.portOf(b);
            case 3: return vessel.cargo.placeOf(b);
            default: return REFUSED;
        }
    }

    public int at(int place) {
        return isPlace(place) ? vessel.cargo.boxAt(place) : REFUSED;
    }

    public int between(int a, int b, int what) {
        if (!isPlace(a) || !isPlace(b)) {
            return REFUSED;
        }
        switch (what) {
            case 0: return vessel.hull.rowsApart(a, b);
            case 1: return vessel.hull.baysApart(a, b);
            case 2: return vessel.hull.shutBetween(a, b);
            case 3: return vessel.hull.hatchBetween(a, b) ? 1 : 0;
            default: return REFUSED;
        }
    }

    public int far(int a, int b, int l) {
        if (!isPlace(a) || !isPlace(b) || !isLevel(l)) {
            return REFUSED;
        }
        return vessel.isFar(a, b, l) ? 1 : 0;
    }

    public int why(int b, int place) {
        return isBox(b) && isPlace(place) ? vessel.whyNot(b, place) : REFUSED;
    }

    public int nearIn(int b, int place) {
        if (!isBox(b) || !isPlace(place)) {
            return REFUSED;
        }
        return vessel.nearest(vessel.cargo.kindOf(b), place, b);
    }

    public int may(int b, int k) {
        return isBox(b) && k >= NONE ? vessel.openPlace(b, k) : REFUSED;
    }

    public int puts(int b, int place) {
        if (!isBox(b) || !isPlace(place)) {
            return REFUSED;
        }
        if (vessel.isPinned(b)) {
            return PINNED;
        }
        int reason = vessel.whyNot(b, place);
        if (reason == 0) {
            history.mark(vessel);
            vessel.cargo.move(b, place);
            history.keep();
        }
        return reason;
    }

    public int lifts(int b) {
        if (!isBox(b)) {
            return REFUSED;
        }
        int place = vessel.cargo.placeOf(b);
        if (place == NONE) {
            return NONE;
        }
        if (vessel.isPinned(b)) {
            return STUCK;
        }
        history.mark(vessel);
        vessel.cargo.move(b, NONE);
        history.keep();
        return place;
    }

    public int opens(int bay, int open) {
        if (!afloat || !vessel.hull.hasDoor(bay) || !within(open, 0, 1)) {
            return REFUSED;
        }
        int state = open == 1 ? DOOR_OPEN : DOOR_SHUT;
        if (vessel.hull.wallAt(bay) != state) {
            history.mark(vessel);
            vessel.hull.setWall(bay, state);
            history.keep();
        }
        return vessel.countNear();
    }

    public int books(int kind, int weight, int port) {
        if (!isKind(kind) || !within(weight, 1, MOST_WEIGHT) || !within(port, 1, MOST_PORTS)) {
            return REFUSED;
        }
        if (vessel.cargo.boxes >= MOST_BOXES) {
            return STUCK;
        }
        history.mark(vessel);
        int number = vessel.cargo.add(kind, weight, port);
        history.keep();
        return number;
    }

    public int near(int k) {
        if (!afloat || k < NONE) {
            return REFUSED;
        }
        return k == NONE ? vessel.countNear() : vessel.nearTwo(k);
    }

    public int nearTo(int b) {
        return isBox(b) ? vessel.countNearTo(b) : REFUSED;
    }

    public int doors(int what) {
        if (!afloat) {
            return REFUSED;
        }
        switch (what) {
            case 0: return vessel.harmlessDoors();
            case 1: return vessel.mostDoors();
            default: return REFUSED;
        }
    }

    public int weighs(int bay, int row, int deck) {
        if (!isStack(bay, row, deck)) {
            return REFUSED;
        }
        return vessel.stackWeight(vessel.hull.lowestOf(bay, row, deck), vessel.hull.tiersOf(deck), NONE);
    }

    public long lean(int what) {
        return afloat && within(what, 0, 3) ? survey.moment(vessel, what) : NO_SUCH;
    }

    public int over() {
        return afloat ? survey.countOver(vessel) : REFUSED;
    }

    public int restows(int port) {
        return afloat && within(port, 1, MOST_PORTS) ? survey.countAbove(vessel, port) : REFUSED;
    }

    public int load(int puts) {
        return arePuts(puts) ? loader.loadBest(vessel, puts) : REFUSED;
    }

    public int effort(int puts) {
        return arePuts(puts) ? loader.countPuts(vessel, puts) : REFUSED;
    }

    public int greedy() {
        return afloat ? loader.planGreedy(vessel) : REFUSED;
    }

    public int told(int b) {
        return isBox(b) ? loader.toldPlace(b) : REFUSED;
    }

    public int takes() {
        if (!afloat) {
            return REFUSED;
        }
        if (!loader.isTold) {
            return UNTOLD;
        }
        history.mark(vessel);
        int done = loader.doTold(vessel);
        if (done > 0) {
            history.keep();
        }
        return done;
    }

    public int loads() {
        if (!afloat) {
            return REFUSED;
        }
        history.mark(vessel);
        int done = loader.doGreedy(vessel);
        if (done > 0) {
            history.keep();
        }
        return done;
    }

    public int shifts(int kind, int weight, int puts) {
        if (!isKind(kind) || !within(weight, 1, MOST_WEIGHT) || !arePuts(puts)) {
            return REFUSED;
        }
        vessel.cargo.setLate(kind, weight);
        return shifter.findFewest(vessel, puts);
    }

    public int shift(int i, int what) {
        boolean asked = within(i, 0, MOST_SHIFTS - 1) && within(what, 0, 1);
        boolean askedLate = i == MOST_SHIFTS && what == 1;
        if (!afloat || !(asked || askedLate)) {
            return REFUSED;
        }
        if (askedLate) {
            return shifter.lateShown();
        }
        return what == 0 ? shifter.boxShown(i) : shifter.placeShown(i);
    }

    public long ways(int n) {
        return isSpan(n) ? vessel.rules.countWays(n) : REFUSED;
    }

    public int span() {
        if (!afloat) {
            return REFUSED;
        }
        for (int n = 1; n <= MOST_SPAN; n++) {
            if (vessel.rules.findWay(n)) {
                return n;
            }
        }
        return NONE;
    }

    public int bayOf(int n, int kind) {
        if (!isSpan(n) || !isKind(kind)) {
            return REFUSED;
        }
        return vessel.rules.findWay(n) ? vessel.rules.chosenBay(kind) : NONE;
    }

    public int hang(int place) {
        return isPlace(place) ? survey.countHanging(vessel, place) : REFUSED;
    }

    public int clears() {
        if (!afloat) {
            return REFUSED;
        }
        int lay = vessel.cargo.countLying();
        if (lay > 0) {
            history.mark(vessel);
            vessel.cargo.liftAll();
            history.keep();
        }
        return lay;
    }

    public int undo() {
        return history.stepBack(vessel) ? history.size : NONE;
    }

    public int tell(int bay) {
        if (!isBay(bay)) {
            return REFUSED;
        }
        page.drawBay(vessel, bay);
        return page.size;
    }

    public int octet(int i) {
        return page.byteAt(i);
    }

    public int stack(int bay, int row, int deck, int i) {
        if (!isStack(bay, row, deck) || i < 0) {
            return REFUSED;
        }
        return survey.boxInStack(vessel, vessel.hull.lowestOf(bay, row, deck), vessel.hull.tiersOf(deck), i);
    }

    public int kindsIn(int bay) {
        return isBay(bay) ? survey.kindBits(vessel, bay) : REFUSED;
    }

    public int free(int what) {
        return afloat && within(what, 0, 1) ? survey.countFree(vessel, what == 1) : REFUSED;
    }

    public int loosest(int b) {
        return isBox(b) ? survey.loosestPlace(vessel, b) : REFUSED;
    }

    public int voyage(int what) {
        if (!afloat || !within(what, 0, 1)) {
            return REFUSED;
        }
        survey.sail(vessel);
        return what == 0 ? survey.countBack() : survey.busiestPort();
    }

    public int clear(int kind, int k) {
        return isKind(kind) && k >= NONE ? vessel.clearPlace(kind, k) : REFUSED;
    }

    public int swaps(int b, int o) {
        if (!isBox(b) || !isBox(o) || b == o) {
            return REFUSED;
        }
        if (!vessel.canLift(b) || !vessel.canLift(o)) {
            return STUCK;
        }
        history.mark(vessel);
        int reason = vessel.exchange(b, o);
        if (reason == 0) {
            history.keep();
        }
        return reason;
    }

    public int steady() {
        return afloat ? survey.steadiestTwo(vessel) : REFUSED;
    }

    public int label(int b) {
        if (!isBox(b)) {
            return REFUSED;
        }
        page.writeBox(vessel.cargo, b);
        return page.size;
    }

    private boolean isBay(int bay) {
        return afloat && within(bay, 0, vessel.hull.bays - 1);
    }

    private boolean isStack(int bay, int row, int deck) {
        return isBay(bay) && within(row, 0, vessel.hull.rows - 1) && within(deck, 0, 1);
    }

    private boolean isPlace(int place) {
        return afloat && within(place, 0, vessel.hull.places - 1);
    }

    private boolean isLevel(int l) {
        return afloat && vessel.rules.hasLevel(l);
    }

    private boolean isKind(int k) {
        return afloat && vessel.rules.hasKind(k);
    }

    private boolean isBox(int b) {
        return afloat && within(b, 0, vessel.cargo.boxes - 1);
    }

    private boolean arePuts(int puts) {
        return afloat && within(puts, 1, MOST_PUTS);
    }

    private boolean isSpan(int n) {
        return afloat && within(n, 1, MOST_SPAN);
    }

    private static boolean within(int n, int least, int most) {
        return n >= least && n <= most;
    }

    /** Every row is read and written through these two, so that no index goes untested. */
    private static int read(int[] row, int i) {
        return i >= 0 && i < row.length ? row[i] : NONE;
    }

    private static void write(int[] row, int i, int value) {
        if (i >= 0 && i < row.length) {
            row[i] = value;
        }
    }

    /** The bytes fed, and the token of them that is looked at. */
    private static final class Tape {
        static final int ROOM = 900;
        static final int END = 0;
        static final int WORD = 1;
        static final int NUMBER = 2;
        static final int SIGN = 3;
        /** Above every bound of the document: longer numbers stay here instead of wrapping around. */
        static final int HUGE = 100000;

        private final int[] bytes = new int[ROOM];
        int size = 0;
        int sort = END;
        int from = 0;
        int value = 0;
        private int to = 0;

        boolean hasRoom(int more) {
            return size + more <= ROOM;
        }

        void append(int four) {
            for (int shift = 24; shift >= 0; shift -= 8) {
                write(bytes, size, (four >>> shift) & 255);
                size++;
            }
        }

        void rewind() {
            to = 0;
            advance();
        }

        void advance() {
            from = to;
            while (from < size && isBlank(read(bytes, from))) {
                from++;
            }
            to = from;
            if (from >= size) {
                sort = END;
            } else if (isLetter(read(bytes, from))) {
                scanWord();
            } else if (isDigit(read(bytes, from))) {
                scanNumber();
            } else {
                sort = SIGN;
                to = from + 1;
            }
        }

        private void scanWord() {
            sort = WORD;
            while (to < size && isLetter(read(bytes, to))) {
                to++;
            }
        }

        private void scanNumber() {
            sort = NUMBER;
            value = 0;
            while (to < size && isDigit(read(bytes, to))) {
                value = Math.min(HUGE, value * 10 + read(bytes, to) - '0');
                to++;
            }
        }

        boolean isWord(String word) {
            return sort == WORD && matches(word);
        }

        boolean isSign(String sign) {
            return sort == SIGN && matches(sign);
        }

        private boolean matches(String text) {
            if (to - from != text.length()) {
                return false;
            }
            for (int i = 0; i < text.length(); i++) {
                if (read(bytes, from + i) != text.charAt(i)) {
                    return false;
                }
            }
            return true;
        }

        private static boolean isBlank(int c) {
            return c == 32 || c == 10;
        }

        private static boolean isLetter(int c) {
            return c >= 'a' && c <= 'z';
        }

        private static boolean isDigit(int c) {
            return c >= '0' && c <= '9';
        }
    }

    /** Reads a text into a draft of a vessel, so that a fault leaves the ship as she was. */
    private static final class Reader {
        private static final int MISPLACED = 1;
        private static final int OUT_OF_BOUNDS = 2;
        private static final int TOLD_AGAIN = 3;
        private static final int TOO_MANY = 4;

        int fault = 0;
        int faultPlace = NONE;
        final Tape tape = new Tape();
        private Vessel draft = new Vessel();

        /** The vessel that was read; the old one is the next draft. */
        Vessel handOver(Vessel old) {
            Vessel ready = draft;
            draft = old;
            return ready;
        }

        int readText() {
            draft.reset();
            fault = 0;
            faultPlace = NONE;
            tape.rewind();
            readShip();
            skipSemicolon();
            int lines = 1;
            // a line has one byte at least, so there are no more lines than room
            while (fault == 0 && tape.sort != Tape.END && lines <= Tape.ROOM) {
                readLine();
                skipSemicolon();
                lines++;
            }
            return lines;
        }

        private void readShip() {
            skipWord("ship");
            skipWord("bays");
            int bays = takeNumber(1, MOST_BAYS);
            skipWord("rows");
            int rows = takeNumber(1, MOST_ROWS);
            skipWord("hold");
            int hold = takeNumber(0, MOST_TIERS);
            skipWord("deck");
            int deck = seeNumber(0, MOST_TIERS);
            if (hold + deck == 0) {
                fail(OUT_OF_BOUNDS);
            }
            tape.advance();
            if (fault == 0) {
                draft.hull.build(bays, rows, hold, deck);
            }
        }

        private void readLine() {
            if (tape.isWord("wall")) {
                readWall();
            } else if (tape.isWord("bears")) {
                readBears();
            } else if (tape.isWord("level")) {
                readLevel();
            } else if (tape.isWord("kind")) {
                readKind();
            } else if (tape.isWord("apart")) {
                readApart();
            } else if (tape.isWord("box")) {
                readBox();
            } else {
                fail(MISPLACED);
            }
        }

        private void readWall() {
            tape.advance();
            int bay = seeNumber(0, draft.hull.bays - 2);
            if (draft.hull.wallAt(bay) != NO_WALL) {
                fail(TOLD_AGAIN);
            }
            tape.advance();
            boolean door = takeOption("door");
            if (fault == 0) {
                draft.hull.setWall(bay, door ? DOOR_OPEN : SOLID);
            }
        }

        private void readBears() {
            if (draft.hull.bearsTold) {
                fail(TOLD_AGAIN);
            }
            tape.advance();
            int hold = takeNumber(1, MOST_BEARING);
            int deck = takeNumber(1, MOST_BEARING);
            if (fault == 0) {
                draft.hull.tellBears(hold, deck);
            }
        }

        private void readLevel() {
            tape.advance();
            int l = seeNumber(1, MOST_LEVELS);
            if (draft.rules.hasLevel(l)) {
                fail(TOLD_AGAIN);
            }
            tape.advance();
            skipWord("across");
            int across = takeNumber(1, 9);
            skipWord("along");
            int along = takeNumber(1, 9);
            int walls = takeOption("walls") ? takeNumber(1, 5) : 0;
            boolean hatch = takeOption("hatch");
            if (fault == 0) {
                draft.rules.tellLevel(l, across, along, walls, hatch ? 1 : 0);
            }
        }

        private void readKind() {
            if (draft.rules.kinds >= MOST_KINDS) {
                fail(TOO_MANY);
            }
            tape.advance();
            int where = ANYWHERE;
            if (takeOption("deck")) {
                where = DECK_ONLY;
            } else if (takeOption("hold")) {
                where = HOLD_ONLY;
            }
            if (fault == 0) {
                draft.rules.addKind(where);
            }
        }

        private void readApart() {
            tape.advance();
            int a = takeNumber(0, draft.rules.kinds - 1);
            int b = seeNumber(0, draft.rules.kinds - 1);
            if (draft.rules.levelOf(a, b) != 0) {
                fail(TOLD_AGAIN);
            }
            tape.advance();
            int l = seeNumber(1, MOST_LEVELS);
            if (!draft.rules.hasLevel(l)) {
                fail(OUT_OF_BOUNDS);
            }
            tape.advance();
            if (fault == 0) {
                draft.rules.tellApart(a, b, l);
            }
        }

        private void readBox() {
            if (draft.cargo.boxes >= MOST_BOXES) {
                fail(TOO_MANY);
            }
            tape.advance();
            int kind = takeNumber(0, draft.rules.kinds - 1);
            skipWord("weight");
            int weight = takeNumber(1, MOST_WEIGHT);
            int port = takeOption("port") ? takeNumber(1, MOST_PORTS) : 1;
            if (fault == 0) {
                draft.cargo.add(kind, weight, port);
            }
        }

        /** The first fault is the one told: tokens come in their order, and what is read behind it is not used. */
        private void fail(int number) {
            if (fault == 0) {
                fault = number;
                faultPlace = tape.from;
            }
        }

        private void skipWord(String word) {
            if (!tape.isWord(word)) {
                fail(MISPLACED);
            }
            tape.advance();
        }

        private void skipSemicolon() {
            if (!tape.isSign(";")) {
                fail(MISPLACED);
            }
            tape.advance();
        }

        private boolean takeOption(String word) {
            boolean there = tape.isWord(word);
            if (there) {
                tape.advance();
            }
            return there;
        }

        /** The number looked at; it stays so, for faults that are told at its place. */
        private int seeNumber(int least, int most) {
            if (tape.sort != Tape.NUMBER) {
                fail(MISPLACED);
            } else if (!within(tape.value, least, most)) {
                fail(OUT_OF_BOUNDS);
            }
            return tape.value;
        }

        private int takeNumber(int least, int most) {
            int number = seeNumber(least, most);
            tape.advance();
            return number;
        }
    }

    /** Bays, rows, tiers, walls, and what a stack bears. */
    private static final class Hull {
        int bays = 0;
        int rows = 0;
        int hold = 0;
        int deck = 0;
        int places = 0;
        int bearsHold = MOST_BEARING;
        int bearsDeck = MOST_BEARING;
        boolean bearsTold = false;
        final int[] bayRow = new int[MOST_PLACES];
        final int[] rowRow = new int[MOST_PLACES];
        final int[] tierRow = new int[MOST_PLACES];
        /** For each bay the shut walls ahead of it, so that those between two bays need no counting. */
        final int[] shutAhead = new int[MOST_BAYS];
        private final int[] walls = new int[MOST_BAYS];

        void reset() {
            build(0, 0, 0, 0);
            bearsHold = MOST_BEARING;
            bearsDeck = MOST_BEARING;
            bearsTold = false;
            Arrays.fill(walls, NO_WALL);
            Arrays.fill(shutAhead, 0);
        }

        void build(int bayCount, int rowCount, int holdTiers, int deckTiers) {
            bays = bayCount;
            rows = rowCount;
            hold = holdTiers;
            deck = deckTiers;
            places = 0;
            for (int bay = 0; bay < bays; bay++) {
                for (int row = 0; row < rows; row++) {
                    for (int tier = 0; tier < hold + deck; tier++) {
                        write(bayRow, places, bay);
                        write(rowRow, places, row);
                        write(tierRow, places, tier);
                        places++;
                    }
                }
            }
        }

        void tellBears(int inHold, int onDeck) {
            bearsHold = inHold;
            bearsDeck = onDeck;
            bearsTold = true;
        }

        /** The last bay has no wall behind it, nor has what is no bay. */
        int wallAt(int bay) {
            return within(bay, 0, bays - 2) ? read(walls, bay) : NO_WALL;
        }

        void setWall(int bay, int state) {
            write(walls, bay, state);
            int shut = 0;
            for (int ahead = 0; ahead < MOST_BAYS; ahead++) {
                write(shutAhead, ahead, shut);
                int wall = read(walls, ahead);
                shut += wall == SOLID || wall == DOOR_SHUT ? 1 : 0;
            }
        }

        boolean hasDoor(int bay) {
            int wall = wallAt(bay);
            return wall == DOOR_OPEN || wall == DOOR_SHUT;
        }

        int bayAt(int place) {
            return read(bayRow, place);
        }

        int rowAt(int place) {
            return read(rowRow, place);
        }

        int tierAt(int place) {
            return read(tierRow, place);
        }

        boolean isDeck(int place) {
            return read(tierRow, place) >= hold;
        }

        /** Whether a place is the lowest one of its stack: nothing can be right below it. */
        boolean isLowest(int place) {
            int tier = read(tierRow, place);
            return tier == 0 || tier == hold;
        }

        /** The lowest place of the stack of a place. */
        int lowestUnder(int place) {
            int tier = read(tierRow, place);
            return tier >= hold ? place - tier + hold : place - tier;
        }

        int lowestOf(int bay, int row, int onDeck) {
            return (row + rows * bay) * (hold + deck) + (onDeck == 1 ? hold : 0);
        }

        int tiersOf(int onDeck) {
            return onDeck == 1 ? deck : hold;
        }

        int rowsApart(int a, int b) {
            return Math.abs(read(rowRow, a) - read(rowRow, b));
        }

        int baysApart(int a, int b) {
            return Math.abs(read(bayRow, a) - read(bayRow, b));
        }

        int tiersApart(int a, int b) {
            return Math.abs(read(tierRow, a) - read(tierRow, b));
        }

        int shutBetween(int a, int b) {
            return Math.abs(read(shutAhead, bayAt(a)) - read(shutAhead, bayAt(b)));
        }

        boolean hatchBetween(int a, int b) {
            return isDeck(a) != isDeck(b);
        }

        /** Whether two places are right beside one another and nothing shut is between them. */
        boolean isBeside(int a, int b) {
            int steps = rowsApart(a, b) + baysApart(a, b) + tiersApart(a, b);
            return steps == 1 && shutBetween(a, b) == 0 && !hatchBetween(a, b);
        }
    }

    /** Levels, kinds, the table of kinds told apart, and bays for kinds. */
    private static final class Rules {
        int kinds = 0;
        final int[] across = new int[MOST_LEVELS + 1];
        final int[] along = new int[MOST_LEVELS + 1];
        final int[] walls = new int[MOST_LEVELS + 1];
        final int[] hatch = new int[MOST_LEVELS + 1];
        private final int[] where = new int[MOST_KINDS];
        private final int[] table = new int[MOST_KINDS * MOST_KINDS];
        private final int[] chosen = new int[MOST_KINDS];

        void reset() {
            kinds = 0;
            Arrays.fill(across, 0);
            Arrays.fill(table, 0);
        }

        void tellLevel(int l, int rowsApart, int baysApart, int shutWalls, int byHatch) {
            write(across, l, rowsApart);
            write(along, l, baysApart);
            write(walls, l, shutWalls);
            write(hatch, l, byHatch);
        }

        /** Across is 1 at least in every level that is told. */
        boolean hasLevel(int l) {
            return within(l, 1, MOST_LEVELS) && read(across, l) > 0;
        }

        int ofLevel(int l, int what) {
            switch (what) {
                case 0: return read(across, l);
                case 1: return read(along, l);
                case 2: return read(walls, l);
                default: return read(hatch, l);
            }
        }

        void addKind(int place) {
            write(where, kinds, place);
            kinds++;
        }

        boolean hasKind(int k) {
            return within(k, 0, kinds - 1);
        }

        int whereOf(int k) {
            return read(where, k);
        }

        boolean mayLie(int k, boolean onDeck) {
            int only = read(where, k);
            return only == ANYWHERE || only == (onDeck ? DECK_ONLY : HOLD_ONLY);
        }

        void tellApart(int a, int b, int l) {
            write(table, a * MOST_KINDS + b, l);
            write(table, b * MOST_KINDS + a, l);
        }

        int levelOf(int a, int b) {
            boolean known = within(a, 0, kinds - 1) && within(b, 0, kinds - 1);
            return known ? read(table, a * MOST_KINDS + b) : 0;
        }

        long countWays(int n) {
            return countWaysFrom(0, n);
        }

        /** Whether there is a way; the first one is chosen then. */
        boolean findWay(int n) {
            return findWayFrom(0, n);
        }

        /** In how many ways kinds from k on have bays, those ahead having the chosen ones: a level for each kind. */
        private long countWaysFrom(int k, int n) {
            if (k >= kinds) {
                return 1;
            }
            // no kind behind asks where this one is, so its bays need not be gone through one by one
            if (!hasPartnerBehind(k)) {
                return countFitting(k, n) * countWaysFrom(k + 1, n);
            }
            long sum = 0;
            for (int bay = 0; bay < n; bay++) {
                if (fits(k, bay)) {
                    write(chosen, k, bay);
                    sum += countWaysFrom(k + 1, n);
                }
            }
            return sum;
        }

        /** Whether kinds from k on have bays at all, those ahead having the chosen ones: a level for each kind. */
        private boolean findWayFrom(int k, int n) {
            if (k >= kinds) {
                return true;
            }
            for (int bay = 0; bay < n; bay++) {
                if (fits(k, bay)) {
                    write(chosen, k, bay);
                    if (findWayFrom(k + 1, n)) {
                        return true;
                    }
                    // another bay changes nothing for the kinds behind
                    if (!hasPartnerBehind(k)) {
                        return false;
                    }
                }
            }
            return false;
        }

        int chosenBay(int k) {
            return read(chosen, k);
        }

        private boolean hasPartnerBehind(int k) {
            for (int other = k + 1; other < kinds; other++) {
                if (levelOf(k, other) != 0) {
                    return true;
                }
            }
            return false;
        }

        private long countFitting(int k, int n) {
            long fitting = 0;
            for (int bay = 0; bay < n; bay++) {
                if (fits(k, bay)) {
                    fitting++;
                }
            }
            return fitting;
        }

        private boolean fits(int k, int bay) {
            for (int other = 0; other < k; other++) {
                int l = levelOf(k, other);
                if (l != 0 && Math.abs(bay - read(chosen, other)) < read(along, l)) {
                    return false;
                }
            }
            return true;
        }
    }

    /** Boxes and where they lie. */
    private static final class Cargo {
        int boxes = 0;
        private final int[] kinds = new int[MOST_BOXES + 1];
        private final int[] weights = new int[MOST_BOXES + 1];
        private final int[] ports = new int[MOST_BOXES + 1];
        private final int[] placeRow = new int[MOST_BOXES + 1];
        private final int[] boxRow = new int[MOST_PLACES];

        void reset() {
            boxes = 0;
            liftAll();
        }

        void liftAll() {
            Arrays.fill(placeRow, NONE);
            Arrays.fill(boxRow, NONE);
        }

        int add(int kind, int weight, int port) {
            int number = boxes;
            write(kinds, number, kind);
            write(weights, number, weight);
            write(ports, number, port);
            write(placeRow, number, NONE);
            boxes++;
            return number;
        }

        void setLate(int kind, int weight) {
            write(kinds, LATE, kind);
            write(weights, LATE, weight);
        }

        int kindOf(int b) {
            return read(kinds, b);
        }

        int weightOf(int b) {
            return read(weights, b);
        }

        int portOf(int b) {
            return read(ports, b);
        }

        int placeOf(int b) {
            return read(placeRow, b);
        }

        boolean lies(int b) {
            return read(placeRow, b) != NONE;
        }

        int boxAt(int place) {
            return read(boxRow, place);
        }

        /** From wherever it lies to a place, or to nowhere. */
        void move(int b, int place) {
            write(boxRow, placeOf(b), NONE);
            write(placeRow, b, place);
            write(boxRow, place, b);
        }

        int countLying() {
            int lying = 0;
            for (int b = 0; b < boxes; b++) {
                if (lies(b)) {
                    lying++;
                }
            }
            return lying;
        }
    }

    /** The ship with her boxes: what is far, what is near, and what may come where. */
    private static final class Vessel {
        final Hull hull = new Hull();
        final Rules rules = new Rules();
        final Cargo cargo = new Cargo();
        private final int[] wallsKept = new int[MOST_BAYS];

        void reset() {
            hull.reset();
            rules.reset();
            cargo.reset();
        }

        /** Reads the rows themselves: it stands below the deepest chains of calls, and is asked most often. */
        boolean isFar(int a, int b, int l) {
            int bayA = read(hull.bayRow, a);
            int bayB = read(hull.bayRow, b);
            int walls = read(rules.walls, l);
            int shut = Math.abs(read(hull.shutAhead, bayA) - read(hull.shutAhead, bayB));
            boolean hatch = (read(hull.tierRow, a) >= hull.hold) != (read(hull.tierRow, b) >= hull.hold);
            return Math.abs(read(hull.rowRow, a) - read(hull.rowRow, b)) >= read(rules.across, l)
                || Math.abs(bayA - bayB) >= read(rules.along, l)
                || walls != 0 && shut >= walls
                || read(rules.hatch, l) == 1 && hatch;
        }

        /** The least box near to one of a kind in a place, itself (or NONE) being left aside. */
        int nearest(int kind, int place, int itself) {
            for (int b = 0; b < cargo.boxes; b++) {
                int l = b != itself && cargo.lies(b) ? rules.levelOf(kind, cargo.kindOf(b)) : 0;
                if (l != 0 && !isFar(place, cargo.placeOf(b), l)) {
                    return b;
                }
            }
            return NONE;
        }

        boolean areNear(int a, int b) {
            int l = cargo.lies(a) && cargo.lies(b) ? rules.levelOf(cargo.kindOf(a), cargo.kindOf(b)) : 0;
            return l != 0 && !isFar(cargo.placeOf(a), cargo.placeOf(b), l);
        }

        /** The document's numbers of WHY, cheapest first as it happens; 0, if the box may come there. */
        int whyNot(int b, int place) {
            if (cargo.boxAt(place) != NONE) {
                return 1;
            }
            boolean lowest = hull.isLowest(place);
            boolean onDeck = hull.isDeck(place);
            int below = lowest ? NONE : cargo.boxAt(place - 1);
            // where the box itself lies it is taken for not being there
            if (!lowest && (below == NONE || below == b)) {
                return 2;
            }
            if (!rules.mayLie(cargo.kindOf(b), onDeck)) {
                return 3;
            }
            int others = stackWeight(hull.lowestUnder(place), hull.tiersOf(onDeck ? 1 : 0), b);
            if (others + cargo.weightOf(b) > (onDeck ? hull.bearsDeck : hull.bearsHold)) {
                return 4;
            }
            if (below != NONE && cargo.weightOf(b) > cargo.weightOf(below)) {
                return 5;
            }
            return nearest(cargo.kindOf(b), place, b) != NONE ? 6 : 0;
        }

        int stackWeight(int lowest, int tiers, int without) {
            int weight = 0;
            for (int i = 0; i < tiers; i++) {
                int b = cargo.boxAt(lowest + i);
                if (b != NONE && b != without) {
                    weight += cargo.weightOf(b);
                }
            }
            return weight;
        }

        /** Whether another one is right on it in its stack. */
        boolean isPinned(int b) {
            int above = cargo.placeOf(b) + 1;
            return cargo.lies(b) && !hull.isLowest(above) && cargo.boxAt(above) != NONE;
        }

        boolean canLift(int b) {
            return cargo.lies(b) && !isPinned(b);
        }

        /** The k-th place to which a box may come; how many, if k is NONE. */
        int openPlace(int b, int k) {
            int found = 0;
            for (int place = 0; place < hull.places; place++) {
                if (whyNot(b, place) == 0) {
                    if (found == k) {
                        return place;
                    }
                    found++;
                }
            }
            return k == NONE ? found : NONE;
        }

        /** The k-th free place in which one of a kind would be near to none; how many, if k is NONE. */
        int clearPlace(int kind, int k) {
            int found = 0;
            for (int place = 0; place < hull.places; place++) {
                if (cargo.boxAt(place) == NONE && nearest(kind, place, NONE) == NONE) {
                    if (found == k) {
                        return place;
                    }
                    found++;
                }
            }
            return k == NONE ? found : NONE;
        }

        int countNearTo(int b) {
            int found = 0;
            for (int other = 0; other < cargo.boxes; other++) {
                if (other != b && areNear(b, other)) {
                    found++;
                }
            }
            return found;
        }

        int countNear() {
            int found = 0;
            for (int b = 0; b < cargo.boxes; b++) {
                found += countNearTo(b);
            }
            // each two was found from both sides
            return found >> 1;
        }

        int nearTwo(int k) {
            int found = 0;
            for (int a = 0; a < cargo.boxes; a++) {
                for (int b = a + 1; b < cargo.boxes; b++) {
                    if (areNear(a, b)) {
                        if (found == k) {
                            return 100 * a + b;
                        }
                        found++;
                    }
                }
            }
            return NONE;
        }

        int harmlessDoors() {
            int now = countNear();
            int bits = 0;
            for (int bay = 0; bay < hull.bays; bay++) {
                if (hull.hasDoor(bay)) {
                    int state = hull.wallAt(bay);
                    hull.setWall(bay, DOOR_OPEN);
                    if (countNear() <= now) {
                        bits |= 1 << bay;
                    }
                    hull.setWall(bay, state);
                }
            }
            return bits;
        }

        int mostDoors() {
            int all = keepDoors();
            int best = NONE;
            for (int set = 0; set <= all; set++) {
                boolean more = best == NONE || Integer.bitCount(set) > Integer.bitCount(best);
                if ((set & all) == set && more) {
                    openDoors(set);
                    if (countNear() == 0) {
                        best = set;
                    }
                }
            }
            restoreDoors();
            return best;
        }

        /** All doors as bits; their states are kept until they are restored. */
        private int keepDoors() {
            int bits = 0;
            for (int bay = 0; bay < hull.bays; bay++) {
                write(wallsKept, bay, hull.wallAt(bay));
                if (hull.hasDoor(bay)) {
                    bits |= 1 << bay;
                }
            }
            return bits;
        }

        private void openDoors(int set) {
            for (int bay = 0; bay < hull.bays; bay++) {
                if (hull.hasDoor(bay)) {
                    hull.setWall(bay, (set >> bay & 1) == 1 ? DOOR_OPEN : DOOR_SHUT);
                }
            }
        }

        private void restoreDoors() {
            for (int bay = 0; bay < hull.bays; bay++) {
                hull.setWall(bay, read(wallsKept, bay));
            }
        }

        /** Two boxes change places: 0; else why not, and both lie where they lay. */
        int exchange(int b, int o) {
            int placeB = cargo.placeOf(b);
            int placeO = cargo.placeOf(o);
            cargo.move(b, NONE);
            cargo.move(o, NONE);
            int reason = whyNot(b, placeO);
            if (reason == 0) {
                cargo.move(b, placeO);
                int other = whyNot(o, placeB);
                reason = other == 0 ? 0 : 10 + other;
            }
            if (reason == 0) {
                cargo.move(o, placeB);
            } else {
                cargo.move(b, placeB);
                cargo.move(o, placeO);
            }
            return reason;
        }
    }

    /** The latest acts: what was so ahead of each. One slot more than acts is spare, for an act that may come to nothing. */
    private static final class History {
        private static final int SLOTS = MOST_ACTS + 1;
        private static final int WIDTH = 1 + MOST_BAYS + MOST_BOXES;

        int size = 0;
        private int slot = 0;
        private final int[] kept = new int[SLOTS * WIDTH];

        void forget() {
            size = 0;
        }

        void mark(Vessel vessel) {
            int from = slot * WIDTH;
            write(kept, from, vessel.cargo.boxes);
            for (int bay = 0; bay < MOST_BAYS; bay++) {
                write(kept, from + 1 + bay, vessel.hull.wallAt(bay));
            }
            for (int b = 0; b < MOST_BOXES; b++) {
                write(kept, from + 1 + MOST_BAYS + b, vessel.cargo.placeOf(b));
            }
        }

        /** What was marked was the beginning of an act. */
        void keep() {
            slot = slot + 1 < SLOTS ? slot + 1 : 0;
            size = Math.min(size + 1, MOST_ACTS);
        }

        boolean stepBack(Vessel vessel) {
            if (size == 0) {
                return false;
            }
            size--;
            slot = slot > 0 ? slot - 1 : SLOTS - 1;
            int from = slot * WIDTH;
            vessel.cargo.boxes = read(kept, from);
            for (int bay = 0; bay < MOST_BAYS; bay++) {
                vessel.hull.setWall(bay, read(kept, from + 1 + bay));
            }
            vessel.cargo.liftAll();
            for (int b = 0; b < vessel.cargo.boxes; b++) {
                vessel.cargo.move(b, read(kept, from + 1 + MOST_BAYS + b));
            }
            return true;
        }
    }

    /** Loading: the boxes that lie nowhere, with the least rejected, or greedily. */
    private static final class Loader {
        boolean isTold = false;
        private final int[] told = new int[MOST_BOXES];
        private final int[] list = new int[MOST_BOXES];
        private final int[] row = new int[MOST_BOXES];
        private final int[] bestRow = new int[MOST_BOXES];
        private int listed = 0;
        private int leastRejected = 0;
        private int done = 0;
        private int limit = 0;

        void forget() {
            isTold = false;
        }

        int toldPlace(int b) {
            return isTold ? read(told, b) : UNTOLD;
        }

        int loadBest(Vessel vessel, int puts) {
            search(vessel, puts);
            if (isTooLong()) {
                return TOO_LONG;
            }
            tellRow(bestRow);
            return leastRejected;
        }

        int countPuts(Vessel vessel, int puts) {
            search(vessel, puts);
            return isTooLong() ? TOO_LONG : done;
        }

        int planGreedy(Vessel vessel) {
            int put = doGreedy(vessel);
            for (int i = 0; i < listed; i++) {
                vessel.cargo.move(read(list, i), NONE);
            }
            tellRow(row);
            return listed - put;
        }

        int doGreedy(Vessel vessel) {
            listBoxes(vessel);
            int put = 0;
            for (int i = 0; i < listed; i++) {
                int b = read(list, i);
                int place = vessel.openPlace(b, 0);
                write(row, i, place);
                if (place != NONE) {
                    vessel.cargo.move(b, place);
                    put++;
                }
            }
            return put;
        }

        int doTold(Vessel vessel) {
            int put = 0;
            for (int b = 0; b < vessel.cargo.boxes; b++) {
                int place = read(told, b);
                if (place >= 0 && !vessel.cargo.lies(b) && vessel.whyNot(b, place) == 0) {
                    vessel.cargo.move(b, place);
                    put++;
                }
            }
            return put;
        }

        private void listBoxes(Vessel vessel) {
            listed = 0;
            for (int b = 0; b < vessel.cargo.boxes; b++) {
                if (!vessel.cargo.lies(b)) {
                    write(list, listed, b);
                    listed++;
                }
            }
        }

        private void search(Vessel vessel, int puts) {
            listBoxes(vessel);
            leastRejected = listed + 1;
            done = 0;
            limit = puts;
            searchFrom(vessel, 0, 0);
        }

        private boolean isTooLong() {
            return done > limit;
        }

        /** All rows that begin as the row so far does, up to its i-th box: at most one level for each box. */
        private void searchFrom(Vessel vessel, int i, int rejected) {
            if (isLeft(rejected)) {
                return;
            }
            if (i >= listed) {
                leastRejected = rejected;
                System.arraycopy(row, 0, bestRow, 0, MOST_BOXES);
                return;
            }
            int b = read(list, i);
            for (int place = 0; place < vessel.hull.places && !isLeft(rejected); place++) {
                if (vessel.whyNot(b, place) == 0) {
                    done++;
                    write(row, i, place);
                    vessel.cargo.move(b, place);
                    searchFrom(vessel, i + 1, rejected);
                    vessel.cargo.move(b, NONE);
                }
            }
            write(row, i, NONE);
            searchFrom(vessel, i + 1, rejected + 1);
        }

        private boolean isLeft(int rejected) {
            return rejected >= leastRejected || isTooLong();
        }

        private void tellRow(int[] places) {
            Arrays.fill(told, UNTOLD);
            for (int i = 0; i < listed; i++) {
                write(told, read(list, i), read(places, i));
            }
            isTold = true;
        }
    }

    /** Late bookings: as few boxes shifted as can be. */
    private static final class Shifter {
        private int shown = NONE;
        private int shownLate = NONE;
        private final int[] shownBoxes = new int[MOST_SHIFTS];
        private final int[] shownPlaces = new int[MOST_SHIFTS];
        private final int[] boxes = new int[MOST_SHIFTS];
        private final int[] places = new int[MOST_SHIFTS];
        private int latePlace = NONE;
        private int done = 0;
        private int limit = 0;

        void forget() {
            shown = NONE;
            shownLate = NONE;
        }

        int boxShown(int i) {
            return i < shown ? read(shownBoxes, i) : NONE;
        }

        int placeShown(int i) {
            return i < shown ? read(shownPlaces, i) : NONE;
        }

        int lateShown() {
            return shownLate;
        }

        int findFewest(Vessel vessel, int puts) {
            done = 0;
            limit = puts;
            for (int total = 0; total <= MOST_SHIFTS; total++) {
                if (findShifts(vessel, 0, total)) {
                    show(total);
                    return total;
                }
                if (done > limit) {
                    return TOO_LONG;
                }
            }
            forget();
            return NONE;
        }

        private void show(int total) {
            shown = total;
            shownLate = latePlace;
            System.arraycopy(boxes, 0, shownBoxes, 0, MOST_SHIFTS);
            System.arraycopy(places, 0, shownPlaces, 0, MOST_SHIFTS);
        }

        /** Whether the late one finds a place with shifts from the i-th on: at most one level for each shift. */
        private boolean findShifts(Vessel vessel, int i, int total) {
            if (i >= total) {
                latePlace = vessel.openPlace(LATE, 0);
                return latePlace != NONE;
            }
            boolean found = false;
            for (int b = 0; b < vessel.cargo.boxes; b++) {
                boolean shiftable = vessel.canLift(b) && !isShifted(b, i);
                int from = vessel.cargo.placeOf(b);
                for (int place = 0; shiftable && place < vessel.hull.places; place++) {
                    if (vessel.whyNot(b, place) == 0) {
                        done++;
                        write(boxes, i, b);
                        write(places, i, place);
                        vessel.cargo.move(b, place);
                        found = done <= limit && findShifts(vessel, i + 1, total);
                        vessel.cargo.move(b, from);
                    }
                    if (found || done > limit) {
                        return found;
                    }
                }
            }
            return false;
        }

        private boolean isShifted(int b, int shifts) {
            for (int i = 0; i < shifts; i++) {
                if (read(boxes, i) == b) {
                    return true;
                }
            }
            return false;
        }
    }

    /** What can be seen of the boxes that lie: weights, who is over whom, who hangs together, what a voyage asks. */
    private static final class Survey {
        private static final int NOBODY_NEAR = 99;

        private final int[] reached = new int[MOST_BOXES];
        private final int[] isReached = new int[MOST_BOXES];
        private final int[] pile = new int[MOST_TIERS];
        private final int[] cameBack = new int[MOST_PORTS + 1];

        long moment(Vessel vessel, int what) {
            long sum = 0;
            for (int b = 0; b < vessel.cargo.boxes; b++) {
                if (vessel.cargo.lies(b)) {
                    sum += (long) vessel.cargo.weightOf(b) * arm(vessel.hull, vessel.cargo.placeOf(b), what);
                }
            }
            return sum;
        }

        private int arm(Hull hull, int place, int what) {
            switch (what) {
                case 0: return 2 * hull.bayAt(place) - (hull.bays - 1);
                case 1: return 2 * hull.rowAt(place) - (hull.rows - 1);
                case 2: return hull.tierAt(place);
                default: return 1;
            }
        }

        /** The box so many tiers below a place, if that is in its stack still; else NONE. */
        private int boxBelow(Vessel vessel, int place, int steps) {
            int lower = place - steps;
            boolean inStack = steps <= vessel.hull.tierAt(place) && !vessel.hull.hatchBetween(place, lower);
            return inStack ? vessel.cargo.boxAt(lower) : NONE;
        }

        int countOver(Vessel vessel) {
            int found = 0;
            for (int b = 0; b < vessel.cargo.boxes; b++) {
                found += vessel.cargo.lies(b) ? countEarlierBelow(vessel, b) : 0;
            }
            return found;
        }

        private int countEarlierBelow(Vessel vessel, int b) {
            int found = 0;
            for (int steps = 1; steps < MOST_TIERS; steps++) {
                int lower = boxBelow(vessel, vessel.cargo.placeOf(b), steps);
                if (lower != NONE && vessel.cargo.portOf(lower) < vessel.cargo.portOf(b)) {
                    found++;
                }
            }
            return found;
        }

        int countAbove(Vessel vessel, int port) {
            int found = 0;
            for (int b = 0; b < vessel.cargo.boxes; b++) {
                boolean other = vessel.cargo.lies(b) && vessel.cargo.portOf(b) != port;
                if (other && isAbovePort(vessel, b, port)) {
                    found++;
                }
            }
            return found;
        }

        private boolean isAbovePort(Vessel vessel, int b, int port) {
            for (int steps = 1; steps < MOST_TIERS; steps++) {
                int lower = boxBelow(vessel, vessel.cargo.placeOf(b), steps);
                if (lower != NONE && vessel.cargo.portOf(lower) == port) {
                    return true;
                }
            }
            return false;
        }

        int boxInStack(Vessel vessel, int lowest, int tiers, int i) {
            int found = 0;
            for (int tier = 0; tier < tiers; tier++) {
                int b = vessel.cargo.boxAt(lowest + tier);
                if (b != NONE) {
                    if (found == i) {
                        return b;
                    }
                    found++;
                }
            }
            return NONE;
        }

        int kindBits(Vessel vessel, int bay) {
            int bits = 0;
            for (int b = 0; b < vessel.cargo.boxes; b++) {
                if (vessel.cargo.lies(b) && vessel.hull.bayAt(vessel.cargo.placeOf(b)) == bay) {
                    bits |= 1 << vessel.cargo.kindOf(b);
                }
            }
            return bits;
        }

        int countFree(Vessel vessel, boolean standing) {
            int found = 0;
            for (int place = 0; place < vessel.hull.places; place++) {
                boolean stands = vessel.hull.isLowest(place) || vessel.cargo.boxAt(place - 1) != NONE;
                if (vessel.cargo.boxAt(place) == NONE && (stands || !standing)) {
                    found++;
                }
            }
            return found;
        }

        /** How many hang together with the one in a place: each one reached reaches those beside it. */
        int countHanging(Vessel vessel, int place) {
            int first = vessel.cargo.boxAt(place);
            if (first == NONE) {
                return NONE;
            }
            Arrays.fill(isReached, 0);
            write(isReached, first, 1);
            write(reached, 0, first);
            int found = 1;
            for (int i = 0; i < found && i < MOST_BOXES; i++) {
                found = reachBeside(vessel, read(reached, i), found);
            }
            return found;
        }

        private int reachBeside(Vessel vessel, int from, int before) {
            int found = before;
            for (int b = 0; b < vessel.cargo.boxes; b++) {
                boolean open = vessel.cargo.lies(b) && read(isReached, b) == 0;
                if (open && vessel.hull.isBeside(vessel.cargo.placeOf(from), vessel.cargo.placeOf(b))) {
                    write(isReached, b, 1);
                    write(reached, found, b);
                    found++;
                }
            }
            return found;
        }

        int loosestPlace(Vessel vessel, int b) {
            int best = NONE;
            int most = NONE;
            for (int place = 0; place < vessel.hull.places; place++) {
                if (vessel.whyNot(b, place) == 0) {
                    int fewest = fewestBays(vessel, b, place);
                    if (fewest > most) {
                        most = fewest;
                        best = place;
                    }
                }
            }
            return best;
        }

        private int fewestBays(Vessel vessel, int b, int place) {
            int fewest = NOBODY_NEAR;
            for (int other = 0; other < vessel.cargo.boxes; other++) {
                boolean counts = other != b && vessel.cargo.lies(other)
                    && vessel.rules.levelOf(vessel.cargo.kindOf(b), vessel.cargo.kindOf(other)) != 0;
                if (counts) {
                    fewest = Math.min(fewest, vessel.hull.baysApart(place, vessel.cargo.placeOf(other)));
                }
            }
            return fewest;
        }

        /** No stack touches another one on the voyage, so each one sails from port to port by itself. */
        void sail(Vessel vessel) {
            Arrays.fill(cameBack, 0);
            for (int place = 0; place < vessel.hull.places; place++) {
                if (vessel.hull.isLowest(place)) {
                    sailStack(vessel, place);
                }
            }
        }

        private void sailStack(Vessel vessel, int lowest) {
            int tiers = vessel.hull.tiersOf(vessel.hull.isDeck(lowest) ? 1 : 0);
            int height = 0;
            for (int i = 0; i < tiers; i++) {
                int b = vessel.cargo.boxAt(lowest + i);
                if (b != NONE) {
                    write(pile, height, vessel.cargo.portOf(b));
                    height++;
                }
            }
            for (int port = 1; port <= MOST_PORTS; port++) {
                height = callAt(port, height);
            }
        }

        /** A pile in a port: those of the port leave, those above the lowest of them come back. How many it has then. */
        private int callAt(int port, int height) {
            int left = 0;
            for (int i = 0; i < height; i++) {
                int to = read(pile, i);
                if (to != port) {
                    // the first that left is below: this one was lifted too
                    if (left < i) {
                        write(cameBack, port, read(cameBack, port) + 1);
                    }
                    write(pile, left, to);
                    left++;
                }
            }
            return left;
        }

        int countBack() {
            int sum = 0;
            for (int port = 1; port <= MOST_PORTS; port++) {
                sum += read(cameBack, port);
            }
            return sum;
        }

        int busiestPort() {
            int best = NONE;
            int most = 0;
            for (int port = 1; port <= MOST_PORTS; port++) {
                if (read(cameBack, port) > most) {
                    most = read(cameBack, port);
                    best = port;
                }
            }
            return best;
        }

        int steadiestTwo(Vessel vessel) {
            long least = Math.abs(moment(vessel, 0));
            int best = NONE;
            for (int b = 0; b < vessel.cargo.boxes; b++) {
                for (int o = b + 1; o < vessel.cargo.boxes; o++) {
                    long leaning = leanExchanged(vessel, b, o, least);
                    if (leaning < least) {
                        least = leaning;
                        best = 100 * b + o;
                    }
                }
            }
            return best;
        }

        /** How she would lean with two boxes having changed places; the other number given, if they can't. */
        private long leanExchanged(Vessel vessel, int b, int o, long otherwise) {
            if (!vessel.canLift(b) || !vessel.canLift(o)) {
                return otherwise;
            }
            int placeB = vessel.cargo.placeOf(b);
            int placeO = vessel.cargo.placeOf(o);
            if (vessel.exchange(b, o) != 0) {
                return otherwise;
            }
            long leaning = Math.abs(moment(vessel, 0));
            vessel.cargo.move(b, NONE);
            vessel.cargo.move(o, placeO);
            vessel.cargo.move(b, placeB);
            return leaning;
        }
    }

    /** What is written: a picture of a bay, or a box. */
    private static final class Page {
        private static final int LINE_FEED = 10;
        private static final int ROOM = 64;

        int size = 0;
        private final int[] bytes = new int[ROOM];

        int byteAt(int i) {
            return within(i, 0, size - 1) ? read(bytes, i) : NONE;
        }

        void drawBay(Vessel vessel, int bay) {
            Hull hull = vessel.hull;
            size = 0;
            for (int tier = hull.hold + hull.deck - 1; tier >= 0; tier--) {
                if (tier == hull.hold - 1 && hull.deck > 0) {
                    drawHatch(hull);
                }
                for (int row = 0; row < hull.rows; row++) {
                    int b = vessel.cargo.boxAt(hull.lowestOf(bay, row, 0) + tier);
                    append(b == NONE ? '.' : 'a' + b);
                }
                append(LINE_FEED);
            }
        }

        private void drawHatch(Hull hull) {
            for (int row = 0; row < hull.rows; row++) {
                append('=');
            }
            append(LINE_FEED);
        }

        void writeBox(Cargo cargo, int b) {
            size = 0;
            append('a' + b);
            append(' ');
            appendNumber(cargo.kindOf(b));
            append(' ');
            appendNumber(cargo.weightOf(b));
            append(' ');
            appendNumber(cargo.portOf(b));
            append(' ');
            if (cargo.lies(b)) {
                appendNumber(cargo.placeOf(b));
            } else {
                append('-');
            }
        }

        private void append(int c) {
            write(bytes, size, c);
            size++;
        }

        /** All numbers written are below 1000. */
        private void appendNumber(int number) {
            if (number >= 100) {
                append('0' + number / 100);
            }
            if (number >= 10) {
                append('0' + number / 10 % 10);
            }
            append('0' + number % 10);
        }
    }
}
