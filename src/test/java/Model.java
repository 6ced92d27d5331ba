import java.util.ArrayDeque;
import java.util.ArrayList;
import java.util.Arrays;
import java.util.Deque;
import java.util.HashSet;
import java.util.List;
import java.util.Set;

/**
 * The document once more, written apart from the class and without regard for speed or room: whole states
 * are copied, places are three numbers, kinds' bays are counted one by one. Runs compare the two.
 */
final class Model {
    static final String[] LINES = {
        "wall #B ;", "wall #B door ;", "bears #N #N ;",
        "level #L across #9 along #9 ;", "level #L across #9 along #9 hatch ;",
        "level #L across #9 along #9 walls #5 ;", "level #L across #9 along #9 walls #5 hatch ;",
        "kind ;", "kind deck ;", "kind hold ;", "apart #K #Q #M ;",
        "box #K weight #W ;", "box #K weight #W port #P ;"};
    static final String SHIP = "ship bays #b rows #r hold #h deck #d ;";

    record Place(int bay, int row, int tier) { }

    static final class Box {
        int kind;
        int weight;
        int port;
        Place lies;

        Box(int kind, int weight, int port, Place lies) {
            this.kind = kind;
            this.weight = weight;
            this.port = port;
            this.lies = lies;
        }
    }

    /** What an act can change. */
    static final class State {
        List<Box> boxes = new ArrayList<>();
        int[] wall = new int[6];

        State copy() {
            State s = new State();
            for (Box b : boxes) {
                s.boxes.add(new Box(b.kind, b.weight, b.port, b.lies));
            }
            s.wall = wall.clone();
            return s;
        }
    }

    static final class Ship {
        int bays, rows, hold, deck;
        int[] bears = {999, 999};
        boolean bearsTold;
        int[][] level = new int[5][];
        List<Integer> kinds = new ArrayList<>();
        int[][] apart = new int[7][7];
        State state = new State();
        int lines;
    }

    List<Integer> tape = new ArrayList<>();
    Ship ship;
    int fault;
    int faultAt = -1;
    Deque<State> past = new ArrayDeque<>();
    String out = "";
    int[] told;
    int[] shown;

    // the text

    int feed(int... numbers) {
        if (tape.size() + 20 > 900) {
            return -1;
        }
        for (int n : numbers) {
            for (int i = 3; i >= 0; i--) {
                tape.add(n >> (8 * i) & 0xff);
            }
        }
        return tape.size();
    }

    int end(int n) {
        if (n < 0 || n > tape.size()) {
            return -1;
        }
        tape = new ArrayList<>(tape.subList(0, n));
        return n;
    }

    record Token(String text, int at) {
        boolean isNumber() {
            return text.matches("[0-9]+");
        }
    }

    static List<Token> tokens(String text) {
        List<Token> all = new ArrayList<>();
        java.util.regex.Matcher m = java.util.regex.Pattern.compile("[a-z]+|[0-9]+|[^ \n]", java.util.regex.Pattern.DOTALL).matcher(text);
        while (m.find()) {
            all.add(new Token(m.group(), m.start()));
        }
        return all;
    }

    int ship() {
        StringBuilder sb = new StringBuilder();
        for (int c : tape) {
            sb.append((char) c);
        }
        tape = new ArrayList<>();
        fault = 0;
        faultAt = -1;
        Ship s = parse(sb.toString());
        if (fault != 0) {
            return -4;
        }
        ship = s;
        past.clear();
        told = null;
        shown = null;
        return s.lines;
    }

    Ship parse(String text) {
        List<Token> all = tokens(text);
        all.add(new Token("", text.length()));
        Ship s = new Ship();
        int t = 0;
        while (true) {
            if (s.lines > 0 && all.get(t).text.isEmpty()) {
                return s;
            }
            List<String[]> open = new ArrayList<>();
            for (String line : s.lines == 0 ? new String[] {SHIP} : LINES) {
                open.add(line.split(" "));
            }
            List<String> words = new ArrayList<>();
            List<Integer> numbers = new ArrayList<>();
            for (int i = 0; ; i++) {
                Token token = all.get(t++);
                final int at = i;
                open.removeIf(line -> !(line[at].startsWith("#") ? token.isNumber() : line[at].equals(token.text)));
                int f = open.isEmpty() ? 1 : meaning(s, open.get(0)[i], token, words, numbers);
                if (f != 0) {
                    fault = f;
                    faultAt = token.at;
                    return null;
                }
                if (token.text.equals(";")) {
                    apply(s, words, numbers);
                    s.lines++;
                    break;
                }
            }
        }
    }

    /** The fault of a token that may stand where it does, 0 without. */
    static int meaning(Ship s, String element, Token token, List<String> words, List<Integer> numbers) {
        if (!token.isNumber()) {
            words.add(token.text);
            if (words.size() > 1) {
                return 0;
            }
            boolean many = token.text.equals("kind") && s.kinds.size() == 7 || token.text.equals("box") && s.state.boxes.size() == 24;
            return token.text.equals("bears") && s.bearsTold ? 3 : many ? 4 : 0;
        }
        java.math.BigInteger big = new java.math.BigInteger(token.text);
        int n = big.bitLength() > 20 ? 1 << 20 : big.intValue();
        numbers.add(n);
        switch (element.charAt(1)) {
            case 'b': return n < 1 || n > 6 ? 2 : 0;
            case 'r': return n < 1 || n > 4 ? 2 : 0;
            case 'h': return n > 3 ? 2 : 0;
            case 'd': return n > 3 || n + numbers.get(2) == 0 ? 2 : 0;
            case 'B': return n > s.bays - 2 ? 2 : s.state.wall[n] != 0 ? 3 : 0;
            case 'N': return n < 1 || n > 999 ? 2 : 0;
            case 'L': return n < 1 || n > 4 ? 2 : s.level[n] != null ? 3 : 0;
            case 'M': return n < 1 || n > 4 || s.level[n] == null ? 2 : 0;
            case '9': return n < 1 || n > 9 ? 2 : 0;
            case '5': return n < 1 || n > 5 ? 2 : 0;
            case 'K': return n >= s.kinds.size() ? 2 : 0;
            case 'Q': return n >= s.kinds.size() ? 2 : s.apart[numbers.get(0)][n] != 0 ? 3 : 0;
            case 'W': return n < 1 || n > 99 ? 2 : 0;
            case 'P': return n < 1 || n > 5 ? 2 : 0;
            default: throw new IllegalStateException(element);
        }
    }

    static void apply(Ship s, List<String> words, List<Integer> n) {
        switch (words.get(0)) {
            case "ship":
                s.bays = n.get(0);
                s.rows = n.get(1);
                s.hold = n.get(2);
                s.deck = n.get(3);
                break;
            case "wall":
                s.state.wall[n.get(0)] = words.contains("door") ? 2 : 1;
                break;
            case "bears":
                s.bears = new int[] {n.get(0), n.get(1)};
                s.bearsTold = true;
                break;
            case "level":
                s.level[n.get(0)] = new int[] {n.get(1), n.get(2), words.contains("walls") ? n.get(3) : 0, words.contains("hatch") ? 1 : 0};
                break;
            case "kind":
                s.kinds.add(words.contains("deck") ? 1 : words.contains("hold") ? 2 : 0);
                break;
            case "apart":
                s.apart[n.get(0)][n.get(1)] = n.get(2);
                s.apart[n.get(1)][n.get(0)] = n.get(2);
                break;
            default:
                s.state.boxes.add(new Box(n.get(0), n.get(1), n.size() > 2 ? n.get(2) : 1, null));
        }
    }

    int fault(int what) {
        return what == 0 ? fault : what == 1 ? faultAt : -1;
    }

    // what there is

    List<Box> boxes() {
        return ship.state.boxes;
    }

    List<Place> places() {
        List<Place> all = new ArrayList<>();
        for (int bay = 0; bay < ship.bays; bay++) {
            for (int row = 0; row < ship.rows; row++) {
                for (int tier = 0; tier < ship.hold + ship.deck; tier++) {
                    all.add(new Place(bay, row, tier));
                }
            }
        }
        return all;
    }

    int code(Place p) {
        return p == null ? -1 : p.tier + (ship.hold + ship.deck) * (p.row + ship.rows * p.bay);
    }

    boolean deck(Place p) {
        return p.tier >= ship.hold;
    }

    boolean sameStack(Place p, Place q) {
        return p.bay == q.bay && p.row == q.row && deck(p) == deck(q);
    }

    Box in(Place p) {
        for (Box b : boxes()) {
            if (p.equals(b.lies)) {
                return b;
            }
        }
        return null;
    }

    int number(Box b) {
        return b == null ? -1 : boxes().indexOf(b);
    }

    boolean noBay(int bay) {
        return ship == null || bay < 0 || bay >= ship.bays;
    }

    boolean noBox(int b) {
        return ship == null || b < 0 || b >= boxes().size();
    }

    boolean noPlace(int p) {
        return ship == null || p < 0 || p >= places().size();
    }

    boolean noKind(int k) {
        return ship == null || k < 0 || k >= ship.kinds.size();
    }

    boolean noLevel(int l) {
        return ship == null || l < 1 || l > 4 || ship.level[l] == null;
    }

    int count(int what) {
        if (what == 10) {
            return tape.size();
        }
        if (what == 11) {
            return out.length();
        }
        if (what < 0 || what > 11) {
            return -1;
        }
        if (ship == null) {
            return 0;
        }
        int lying = (int) boxes().stream().filter(b -> b.lies != null).count();
        return new int[] {ship.bays, ship.rows, ship.hold, ship.deck, ship.kinds.size(), boxes().size(), lying,
            ship.bears[0], ship.bears[1], past.size()}[what];
    }

    int wall(int bay) {
        return noBay(bay) || noBay(bay + 1) ? -2 : ship.state.wall[bay];
    }

    int level(int l, int what) {
        return noLevel(l) || what < 0 || what > 3 ? -2 : ship.level[l][what];
    }

    int kind(int k) {
        return noKind(k) ? -2 : ship.kinds.get(k);
    }

    int apart(int a, int b) {
        return noKind(a) || noKind(b) ? -2 : ship.apart[a][b];
    }

    int box(int b, int what) {
        if (noBox(b) || what < 0 || what > 3) {
            return -2;
        }
        Box x = boxes().get(b);
        return new int[] {x.kind, x.weight, x.port, code(x.lies)}[what];
    }

    int at(int place) {
        return noPlace(place) ? -2 : number(in(places().get(place)));
    }

    // far and near

    int shutBetween(Place p, Place q) {
        int n = 0;
        for (int bay = 0; bay < 6; bay++) {
            boolean isShut = ship.state.wall[bay] == 1 || ship.state.wall[bay] == 3;
            boolean isBetween = p.bay <= bay && bay < q.bay || q.bay <= bay && bay < p.bay;
            if (isShut && isBetween) {
                n++;
            }
        }
        return n;
    }

    int between(int a, int b, int what) {
        if (noPlace(a) || noPlace(b) || what < 0 || what > 3) {
            return -2;
        }
        Place p = places().get(a);
        Place q = places().get(b);
        return new int[] {Math.abs(p.row - q.row), Math.abs(p.bay - q.bay), shutBetween(p, q), deck(p) == deck(q) ? 0 : 1}[what];
    }

    boolean isFar(Place p, Place q, int l) {
        int[] v = ship.level[l];
        if (Math.abs(p.row - q.row) >= v[0]) {
            return true;
        }
        if (Math.abs(p.bay - q.bay) >= v[1]) {
            return true;
        }
        if (v[2] > 0 && shutBetween(p, q) >= v[2]) {
            return true;
        }
        return v[3] == 1 && deck(p) != deck(q);
    }

    int far(int a, int b, int l) {
        return noPlace(a) || noPlace(b) || noLevel(l) ? -2 : isFar(places().get(a), places().get(b), l) ? 1 : 0;
    }

    /** Which boxes one of a kind in a place would be near to, without itself. */
    List<Integer> nearSet(int kind, Place p, Box itself) {
        List<Integer> set = new ArrayList<>();
        for (Box o : boxes()) {
            if (o != itself && o.lies != null && ship.apart[kind][o.kind] != 0 && !isFar(p, o.lies, ship.apart[kind][o.kind])) {
                set.add(number(o));
            }
        }
        return set;
    }

    int whyNot(Box b, Place p) {
        if (in(p) != null) {
            return 1;
        }
        Place home = b.lies;
        b.lies = null;
        int answer = whyOf(b, p);
        b.lies = home;
        return answer;
    }

    private int whyOf(Box b, Place p) {
        Place under = new Place(p.bay, p.row, p.tier - 1);
        boolean floor = p.tier == 0 || deck(under) != deck(p);
        if (!floor && in(under) == null) {
            return 2;
        }
        int only = ship.kinds.get(b.kind);
        if (only == 1 && !deck(p) || only == 2 && deck(p)) {
            return 3;
        }
        int sum = b.weight;
        for (Box o : boxes()) {
            if (o.lies != null && sameStack(o.lies, p)) {
                sum += o.weight;
            }
        }
        if (sum > ship.bears[deck(p) ? 1 : 0]) {
            return 4;
        }
        if (!floor && b.weight > in(under).weight) {
            return 5;
        }
        return nearSet(b.kind, p, b).isEmpty() ? 0 : 6;
    }

    int why(int b, int place) {
        return noBox(b) || noPlace(place) ? -2 : whyNot(boxes().get(b), places().get(place));
    }

    int nearIn(int b, int place) {
        if (noBox(b) || noPlace(place)) {
            return -2;
        }
        List<Integer> set = nearSet(boxes().get(b).kind, places().get(place), boxes().get(b));
        return set.isEmpty() ? -1 : set.get(0);
    }

    static int pick(List<Integer> list, int k) {
        return k == -1 ? list.size() : k < list.size() ? list.get(k) : -1;
    }

    List<Integer> mayList(Box b) {
        List<Integer> list = new ArrayList<>();
        for (Place p : places()) {
            if (whyNot(b, p) == 0) {
                list.add(code(p));
            }
        }
        return list;
    }

    int may(int b, int k) {
        return noBox(b) || k < -1 ? -2 : pick(mayList(boxes().get(b)), k);
    }

    boolean stuck(Box b) {
        if (b.lies == null) {
            return false;
        }
        for (Box o : boxes()) {
            if (o.lies != null && sameStack(o.lies, b.lies) && o.lies.tier == b.lies.tier + 1) {
                return true;
            }
        }
        return false;
    }

    // acts

    void act() {
        past.addLast(ship.state.copy());
        if (past.size() > 12) {
            past.removeFirst();
        }
    }

    int puts(int b, int place) {
        if (noBox(b) || noPlace(place)) {
            return -2;
        }
        Box x = boxes().get(b);
        if (stuck(x)) {
            return 7;
        }
        Place p = places().get(place);
        int w = whyNot(x, p);
        if (w == 0) {
            act();
            x.lies = p;
        }
        return w;
    }

    int lifts(int b) {
        if (noBox(b)) {
            return -2;
        }
        Box x = boxes().get(b);
        if (x.lies == null) {
            return -1;
        }
        if (stuck(x)) {
            return -5;
        }
        act();
        int from = code(x.lies);
        x.lies = null;
        return from;
    }

    int opens(int bay, int open) {
        if (noBay(bay) || ship.state.wall[bay] < 2 || open < 0 || open > 1) {
            return -2;
        }
        if (ship.state.wall[bay] != 3 - open) {
            act();
            ship.state.wall[bay] = 3 - open;
        }
        return twos().size();
    }

    int books(int kind, int weight, int port) {
        if (noKind(kind) || weight < 1 || weight > 99 || port < 1 || port > 5) {
            return -2;
        }
        if (boxes().size() == 24) {
            return -5;
        }
        act();
        boxes().add(new Box(kind, weight, port, null));
        return boxes().size() - 1;
    }

    List<Integer> twos() {
        List<Integer> list = new ArrayList<>();
        for (int a = 0; a < boxes().size(); a++) {
            Box x = boxes().get(a);
            if (x.lies != null) {
                for (int o : nearSet(x.kind, x.lies, x)) {
                    if (o > a) {
                        list.add(100 * a + o);
                    }
                }
            }
        }
        return list;
    }

    int near(int k) {
        return ship == null || k < -1 ? -2 : pick(twos(), k);
    }

    int nearTo(int b) {
        if (noBox(b)) {
            return -2;
        }
        int n = 0;
        for (int two : twos()) {
            if (two / 100 == b || two % 100 == b) {
                n++;
            }
        }
        return n;
    }

    int doors(int what) {
        if (ship == null || what < 0 || what > 1) {
            return -2;
        }
        int[] before = ship.state.wall.clone();
        Set<Integer> now = new HashSet<>(twos());
        int answer = what == 0 ? 0 : -1;
        for (int set = 0; set < 64; set++) {
            boolean possible = true;
            for (int bay = 0; bay < 6; bay++) {
                boolean isDoor = before[bay] >= 2;
                boolean isOpen = (set >> bay & 1) == 1;
                possible &= isDoor || !isOpen;
                ship.state.wall[bay] = !isDoor ? before[bay] : isOpen ? 2 : 3;
            }
            if (possible && what == 1 && twos().isEmpty() && (answer == -1 || Integer.bitCount(set) > Integer.bitCount(answer))) {
                answer = set;
            }
        }
        for (int bay = 0; bay < 6 && what == 0; bay++) {
            ship.state.wall = before.clone();
            if (before[bay] >= 2) {
                ship.state.wall[bay] = 2;
                if (now.containsAll(twos())) {
                    answer |= 1 << bay;
                }
            }
        }
        ship.state.wall = before;
        return answer;
    }

    // weights

    List<Box> stackOf(int bay, int row, int onDeck) {
        List<Box> list = new ArrayList<>();
        for (Place p : places()) {
            if (p.bay == bay && p.row == row && deck(p) == (onDeck == 1) && in(p) != null) {
                list.add(in(p));
            }
        }
        return list;
    }

    boolean noStack(int bay, int row, int deck) {
        return noBay(bay) || row < 0 || row >= ship.rows || deck < 0 || deck > 1;
    }

    int weighs(int bay, int row, int deck) {
        return noStack(bay, row, deck) ? -2 : stackOf(bay, row, deck).stream().mapToInt(b -> b.weight).sum();
    }

    long lean(int what) {
        if (ship == null || what < 0 || what > 3) {
            return Long.MIN_VALUE;
        }
        long sum = 0;
        for (Box b : boxes()) {
            if (b.lies != null) {
                sum += b.weight * new long[] {2 * b.lies.bay - (ship.bays - 1), 2 * b.lies.row - (ship.rows - 1), b.lies.tier, 1}[what];
            }
        }
        return sum;
    }

    int over() {
        if (ship == null) {
            return -2;
        }
        int n = 0;
        for (Box b : boxes()) {
            for (Box o : boxes()) {
                boolean above = b.lies != null && o.lies != null && sameStack(b.lies, o.lies) && b.lies.tier > o.lies.tier;
                if (above && o.port < b.port) {
                    n++;
                }
            }
        }
        return n;
    }

    int restows(int port) {
        if (ship == null || port < 1 || port > 5) {
            return -2;
        }
        Set<Box> set = new HashSet<>();
        for (Box b : boxes()) {
            for (Box o : boxes()) {
                boolean above = b.lies != null && o.lies != null && sameStack(b.lies, o.lies) && b.lies.tier > o.lies.tier;
                if (above && o.port == port && b.port != port) {
                    set.add(b);
                }
            }
        }
        return set.size();
    }

    // loading

    static final class Long50 extends RuntimeException {
    }

    List<Integer> idle() {
        List<Integer> list = new ArrayList<>();
        for (Box b : boxes()) {
            if (b.lies == null) {
                list.add(number(b));
            }
        }
        return list;
    }

    int putsDone;
    int[] best;
    int bestRejected;

    void go(List<Integer> idle, int[] row, int i, int rejected, int limit) {
        if (rejected >= bestRejected) {
            return;
        }
        if (i == idle.size()) {
            best = row.clone();
            bestRejected = rejected;
            return;
        }
        Box b = boxes().get(idle.get(i));
        for (Place p : places()) {
            if (rejected >= bestRejected) {
                return;
            }
            if (whyNot(b, p) == 0) {
                if (++putsDone > limit) {
                    throw new Long50();
                }
                b.lies = p;
                int[] longer = row.clone();
                longer[idle.get(i)] = code(p);
                go(idle, longer, i + 1, rejected, limit);
                b.lies = null;
            }
        }
        int[] longer = row.clone();
        longer[idle.get(i)] = -1;
        go(idle, longer, i + 1, rejected + 1, limit);
    }

    /** Whether it is not too long. */
    boolean loading(int limit) {
        State before = ship.state;
        ship.state = before.copy();
        putsDone = 0;
        bestRejected = Integer.MAX_VALUE;
        int[] row = new int[24];
        Arrays.fill(row, -6);
        try {
            go(idle(), row, 0, 0, limit);
            return true;
        } catch (Long50 e) {
            return false;
        } finally {
            ship.state = before;
        }
    }

    int load(int puts) {
        if (ship == null || puts < 1 || puts > 50000) {
            return -2;
        }
        if (!loading(puts)) {
            return -3;
        }
        told = best;
        return bestRejected;
    }

    int effort(int puts) {
        if (ship == null || puts < 1 || puts > 50000) {
            return -2;
        }
        return loading(puts) ? putsDone : -3;
    }

    int[] greedily() {
        int[] row = new int[24];
        Arrays.fill(row, -6);
        for (int b : idle()) {
            row[b] = -1;
            for (Place p : places()) {
                if (row[b] == -1 && whyNot(boxes().get(b), p) == 0) {
                    row[b] = code(p);
                    boxes().get(b).lies = p;
                }
            }
        }
        return row;
    }

    int greedy() {
        if (ship == null) {
            return -2;
        }
        State before = ship.state;
        ship.state = before.copy();
        told = greedily();
        ship.state = before;
        return (int) Arrays.stream(told).filter(p -> p == -1).count();
    }

    int told(int b) {
        return noBox(b) ? -2 : told == null ? -6 : told[b];
    }

    int takes() {
        if (ship == null) {
            return -2;
        }
        if (told == null) {
            return -6;
        }
        State before = ship.state.copy();
        int n = 0;
        for (int b = 0; b < boxes().size(); b++) {
            Box x = boxes().get(b);
            if (told[b] >= 0 && x.lies == null && whyNot(x, places().get(told[b])) == 0) {
                x.lies = places().get(told[b]);
                n++;
            }
        }
        actFrom(before, n);
        return n;
    }

    private void actFrom(State before, int n) {
        if (n > 0) {
            State after = ship.state;
            ship.state = before;
            act();
            ship.state = after;
        }
    }

    int loads() {
        if (ship == null) {
            return -2;
        }
        State before = ship.state.copy();
        int n = (int) Arrays.stream(greedily()).filter(p -> p >= 0).count();
        actFrom(before, n);
        return n;
    }

    // shifts

    int latePlace(int kind, int weight) {
        Box late = new Box(kind, weight, 1, null);
        List<Integer> list = mayList(late);
        return list.isEmpty() ? -1 : list.get(0);
    }

    int shifts(int kind, int weight, int puts) {
        if (noKind(kind) || weight < 1 || weight > 99 || puts < 1 || puts > 50000) {
            return -2;
        }
        State before = ship.state;
        ship.state = before.copy();
        putsDone = 0;
        try {
            int[] found = seek(kind, weight, puts);
            shown = found;
            return found == null ? -1 : found[5];
        } catch (Long50 e) {
            return -3;
        } finally {
            ship.state = before;
        }
    }

    private void countPut(int limit) {
        if (++putsDone > limit) {
            throw new Long50();
        }
    }

    /** box, place, box, place, late place, how many. */
    private int[] seek(int kind, int weight, int limit) {
        int late = latePlace(kind, weight);
        if (late >= 0) {
            return new int[] {-1, -1, -1, -1, late, 0};
        }
        for (Box b : boxes()) {
            Place from = b.lies;
            if (from == null || stuck(b)) {
                continue;
            }
            for (int to : mayList(b)) {
                countPut(limit);
                b.lies = places().get(to);
                late = latePlace(kind, weight);
                b.lies = from;
                if (late >= 0) {
                    return new int[] {number(b), to, -1, -1, late, 1};
                }
            }
        }
        for (Box b : boxes()) {
            Place from = b.lies;
            if (from == null || stuck(b)) {
                continue;
            }
            for (int to : mayList(b)) {
                countPut(limit);
                b.lies = places().get(to);
                for (Box o : boxes()) {
                    Place fromO = o.lies;
                    if (o == b || fromO == null || stuck(o)) {
                        continue;
                    }
                    for (int toO : mayList(o)) {
                        countPut(limit);
                        o.lies = places().get(toO);
                        late = latePlace(kind, weight);
                        o.lies = fromO;
                        if (late >= 0) {
                            return new int[] {number(b), to, number(o), toO, late, 2};
                        }
                    }
                }
                b.lies = from;
            }
        }
        return null;
    }

    int shift(int i, int what) {
        if (ship == null || i < 0 || i > 2 || what < 0 || what > 1 || i == 2 && what == 0) {
            return -2;
        }
        return shown == null ? -1 : i == 2 ? shown[4] : shown[2 * i + what];
    }

    // bays for kinds

    List<int[]> allWays(int n) {
        List<int[]> all = new ArrayList<>();
        int k = ship.kinds.size();
        int total = (int) Math.round(Math.pow(n, k));
        for (int w = 0; w < total; w++) {
            int[] bay = new int[k];
            int rest = w;
            for (int i = k - 1; i >= 0; i--) {
                bay[i] = rest % n;
                rest /= n;
            }
            boolean fine = true;
            for (int a = 0; a < k && fine; a++) {
                for (int b = 0; b < a; b++) {
                    int l = ship.apart[a][b];
                    fine &= l == 0 || Math.abs(bay[a] - bay[b]) >= ship.level[l][1];
                }
            }
            if (fine) {
                all.add(bay);
            }
        }
        return all;
    }

    long ways(int n) {
        return ship == null || n < 1 || n > 8 ? -2 : allWays(n).size();
    }

    int span() {
        if (ship == null) {
            return -2;
        }
        for (int n = 1; n <= 8; n++) {
            if (!allWays(n).isEmpty()) {
                return n;
            }
        }
        return -1;
    }

    int bayOf(int n, int kind) {
        if (ship == null || n < 1 || n > 8 || noKind(kind)) {
            return -2;
        }
        List<int[]> all = allWays(n);
        return all.isEmpty() ? -1 : all.get(0)[kind];
    }

    // what can be seen

    int hang(int place) {
        if (noPlace(place)) {
            return -2;
        }
        if (in(places().get(place)) == null) {
            return -1;
        }
        Set<Place> set = new HashSet<>();
        set.add(places().get(place));
        boolean grew = true;
        while (grew) {
            grew = false;
            for (Place p : places()) {
                if (in(p) != null && !set.contains(p) && set.stream().anyMatch(q -> touches(p, q))) {
                    set.add(p);
                    grew = true;
                }
            }
        }
        return set.size();
    }

    boolean touches(Place p, Place q) {
        if (p.row == q.row && p.tier == q.tier && Math.abs(p.bay - q.bay) == 1) {
            int wall = ship.state.wall[Math.min(p.bay, q.bay)];
            return wall == 0 || wall == 2;
        }
        if (p.bay == q.bay && p.tier == q.tier) {
            return Math.abs(p.row - q.row) == 1;
        }
        return p.bay == q.bay && p.row == q.row && Math.abs(p.tier - q.tier) == 1 && Math.max(p.tier, q.tier) != ship.hold;
    }

    int clears() {
        if (ship == null) {
            return -2;
        }
        int n = count(6);
        if (n > 0) {
            act();
            boxes().forEach(b -> b.lies = null);
        }
        return n;
    }

    int undo() {
        if (past.isEmpty()) {
            return -1;
        }
        ship.state = past.removeLast();
        return past.size();
    }

    int tell(int bay) {
        if (noBay(bay)) {
            return -2;
        }
        String picture = "";
        for (int tier = 0; tier < ship.hold + ship.deck; tier++) {
            String line = "";
            for (int row = 0; row < ship.rows; row++) {
                Box b = in(new Place(bay, row, tier));
                line += b == null ? "." : "abcdefghijklmnopqrstuvwx".substring(number(b), number(b) + 1);
            }
            picture = line + "\n" + picture;
            if (tier == ship.hold - 1 && ship.deck > 0) {
                picture = "=".repeat(ship.rows) + "\n" + picture;
            }
        }
        out = picture;
        return out.length();
    }

    int octet(int i) {
        return i < 0 || i >= out.length() ? -1 : out.charAt(i);
    }

    int stack(int bay, int row, int deck, int i) {
        if (noStack(bay, row, deck) || i < 0) {
            return -2;
        }
        List<Box> list = stackOf(bay, row, deck);
        return i < list.size() ? number(list.get(i)) : -1;
    }

    int kindsIn(int bay) {
        if (noBay(bay)) {
            return -2;
        }
        int bits = 0;
        for (Box b : boxes()) {
            if (b.lies != null && b.lies.bay == bay) {
                bits |= 1 << b.kind;
            }
        }
        return bits;
    }

    int free(int what) {
        if (ship == null || what < 0 || what > 1) {
            return -2;
        }
        int n = 0;
        for (Place p : places()) {
            Place under = new Place(p.bay, p.row, p.tier - 1);
            boolean hangs = p.tier != 0 && p.tier != ship.hold && in(under) == null;
            if (in(p) == null && (what == 0 || !hangs)) {
                n++;
            }
        }
        return n;
    }

    int loosest(int b) {
        if (noBox(b)) {
            return -2;
        }
        Box x = boxes().get(b);
        int best = -1;
        int most = -1;
        for (int code : mayList(x)) {
            int few = boxes().stream().filter(o -> o != x && o.lies != null && ship.apart[x.kind][o.kind] != 0)
                .mapToInt(o -> Math.abs(o.lies.bay - places().get(code).bay)).min().orElse(99);
            if (few > most) {
                most = few;
                best = code;
            }
        }
        return best;
    }

    int voyage(int what) {
        if (ship == null || what < 0 || what > 1) {
            return -2;
        }
        List<List<Integer>> stacks = new ArrayList<>();
        for (int bay = 0; bay < ship.bays; bay++) {
            for (int row = 0; row < ship.rows; row++) {
                for (int d = 0; d < 2; d++) {
                    stacks.add(new ArrayList<>(stackOf(bay, row, d).stream().map(b -> b.port).toList()));
                }
            }
        }
        int all = 0;
        int busiest = -1;
        int most = 0;
        for (int port = 1; port <= 5; port++) {
            int back = 0;
            for (List<Integer> s : stacks) {
                int low = s.indexOf(port);
                if (low >= 0) {
                    List<Integer> lifted = new ArrayList<>(s.subList(low, s.size()));
                    s.subList(low, s.size()).clear();
                    for (int q : lifted) {
                        if (q != port) {
                            s.add(q);
                            back++;
                        }
                    }
                }
            }
            all += back;
            if (back > most) {
                most = back;
                busiest = port;
            }
        }
        return what == 0 ? all : busiest;
    }

    int clear(int kind, int k) {
        if (noKind(kind) || k < -1) {
            return -2;
        }
        List<Integer> list = new ArrayList<>();
        for (Place p : places()) {
            if (in(p) == null && nearSet(kind, p, null).isEmpty()) {
                list.add(code(p));
            }
        }
        return pick(list, k);
    }

    int trySwap(Box x, Box y) {
        Place p = x.lies;
        Place q = y.lies;
        x.lies = null;
        y.lies = null;
        int w = whyNot(x, q);
        if (w == 0) {
            x.lies = q;
            w = whyNot(y, p);
            w = w == 0 ? 0 : w + 10;
        }
        x.lies = w == 0 ? q : p;
        y.lies = w == 0 ? p : q;
        return w;
    }

    int swaps(int b, int o) {
        if (noBox(b) || noBox(o) || b == o) {
            return -2;
        }
        Box x = boxes().get(b);
        Box y = boxes().get(o);
        if (x.lies == null || y.lies == null || stuck(x) || stuck(y)) {
            return -5;
        }
        State before = ship.state.copy();
        int w = trySwap(x, y);
        actFrom(before, w == 0 ? 1 : 0);
        return w;
    }

    int steady() {
        if (ship == null) {
            return -2;
        }
        long least = Math.abs(lean(0));
        int answer = -1;
        for (int b = 0; b < boxes().size(); b++) {
            for (int o = b + 1; o < boxes().size(); o++) {
                State before = ship.state;
                ship.state = before.copy();
                Box x = boxes().get(b);
                Box y = boxes().get(o);
                boolean can = x.lies != null && y.lies != null && !stuck(x) && !stuck(y) && trySwap(x, y) == 0;
                if (can && Math.abs(lean(0)) < least) {
                    least = Math.abs(lean(0));
                    answer = 100 * b + o;
                }
                ship.state = before;
            }
        }
        return answer;
    }

    int label(int b) {
        if (noBox(b)) {
            return -2;
        }
        Box x = boxes().get(b);
        out = (char) ('a' + b) + " " + x.kind + " " + x.weight + " " + x.port + " " + (x.lies == null ? "-" : "" + code(x.lies));
        return out.length();
    }
}
