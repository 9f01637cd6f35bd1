import java.util.Arrays;

/** Two firms at the tables: rows, a text that is read, acts that can be undone, and what is foretold. */
public final class TableFirms {
    public static final int NONE = -1000000, BAD = -1000001, STATE = -1000002, FULL = -1000003;

    private static final int FINDINGS = -1000010;
    private static final int NULL = 1, PLACE = 2, KIND = 3, SIZE = 4, STORE = 5;

    private static final int FAULTS = -1000100;
    private static final int MISPLACED = 1, NOT_AS_TOLD = 2, NO_ROOM = 3;

    private static final int MOST_MEN = 8, FIRMS = 2, IMAGES = 2;
    private static final int LEAST_POINTS = 4, MOST_POINTS = 12, MOST_HOME = 4;
    /** The points, the bar and off. */
    private static final int MOST_PLACES = MOST_POINTS + 2;
    private static final int FACES = 6, LAST_TURN = 999, HIGHEST_CUBE = 64;
    private static final int LONGEST_RACE = 60, LONGEST_CHANCE = 3, LONGEST_GAME = 60;
    private static final int DEEPEST_BEST = 2, HIGHEST_SEED = 999999;

    private static final int MAN = 0, CLERK = 1, RUNNER = 2, OLD = 3, PARTNER = 4, BLOT = 5;
    private static final int KINDS = 6;
    /** What each kind is, too: the way up ends at MAN, who stands above himself. */
    private static final int[] KIND_ABOVE = {MAN, MAN, CLERK, CLERK, MAN, PARTNER};

    private final Rows rows = new Rows();
    private final Tape tape = new Tape();
    private final Board live = new Board();
    private final Board draft = new Board();
    private final Board[] images = new Board[IMAGES];
    private final Acts acts = new Acts();
    private final Foresight foresight = new Foresight();
    private final Asks asks = new Asks();
    private int latestFault;
    private int latestFinding;

    public TableFirms() {
        for (int k = 0; k < IMAGES; k++) {
            images[k] = new Board();
        }
    }

    // ---- rows

    public int row(int row, int lane, int n) {
        if (!isRow(row) || !within(lane, 0, Rows.LANES - 1) || n > Rows.MOST_ITEMS) {
            return BAD;
        }
        if (n < 0) {
            return found(SIZE);
        }
        rows.make(row, lane, n);
        return unfound(n);
    }

    public int set(int row, int i, int v) {
        if (!isRow(row)) {
            return BAD;
        }
        int finding = rows.findingFrom(row, i, 1);
        if (finding != 0) {
            return found(finding);
        }
        return unfound(rows.write(row, i, v));
    }

    public int copy(int a, int i, int b, int j, int n) {
        if (!isRow(a) || !isRow(b)) {
            return BAD;
        }
        int finding = rows.copyFinding(a, i, b, j, n);
        if (finding != 0) {
            return found(finding);
        }
        rows.carry(a, i, b, j, n);
        return unfound(n);
    }

    public int drop(int row) {
        if (!isRow(row)) {
            return BAD;
        }
        if (rows.isMissing(row)) {
            return found(NULL);
        }
        return unfound(rows.remove(row));
    }

    // ---- what is told

    public int feed(int letter) {
        if (!within(letter, 0, 255)) {
            return BAD;
        }
        return tape.append(letter);
    }

    public int table() {
        Reader reader = new Reader(tape, draft);
        boolean isRead = reader.readAll();
        tape.clear();
        if (!isRead) {
            latestFault = reader.faultNumber;
            return FAULTS - reader.faultPlace;
        }
        live.copyFrom(draft);
        acts.forget();
        return live.men;
    }

    public int fault() {
        return latestFault;
    }

    public int undo() {
        if (acts.kept == 0) {
            return STATE;
        }
        acts.takeBack(live);
        return acts.kept;
    }

    // ---- what is done

    public int play(int d) {
        if (hasNoTable()) {
            return STATE;
        }
        if (!isThrow(d)) {
            return BAD;
        }
        if (isOver()) {
            return STATE;
        }
        if (live.turn >= LAST_TURN) {
            return FULL;
        }
        acts.keep(live);
        return live.turnByRule(d);
    }

    public int move(int man, int d) {
        if (!isMan(man) || !isThrow(d)) {
            return BAD;
        }
        if (isOver() || live.firms[man] != live.thrower || !live.canGo(man, d)) {
            return STATE;
        }
        if (live.turn >= LAST_TURN) {
            return FULL;
        }
        acts.keep(live);
        live.go(man, d);
        live.passThrow();
        return live.placeTold(live.places[man]);
    }

    public int twice() {
        if (hasNoTable() || isOver()) {
            return STATE;
        }
        if (live.owner == 1 - live.thrower || live.cube >= HIGHEST_CUBE) {
            return STATE;
        }
        acts.keep(live);
        live.cube = 2 * live.cube;
        live.owner = 1 - live.thrower;
        return live.cube;
    }

    public int lay(int man, int at) {
        if (!isMan(man) || !within(at, 0, live.bar())) {
            return BAD;
        }
        int before = live.places[man];
        if (before == at) {
            return STATE;
        }
        acts.keep(live);
        live.put(man, at);
        return before;
    }

    public int man(int man, int what) {
        if (!isMan(man)) {
            return BAD;
        }
        switch (what) {
            case 0:
                return live.firms[man];
            case 1:
                return live.places[man] == live.off() ? NONE : live.places[man];
            case 2:
                return live.pipsOf(man);
            case 3:
                return live.pipsOf(man) <= live.home ? 1 : 0;
            default:
                return BAD;
        }
    }

    public int on(int firm, int at) {
        if (hasNoTable() || !isFirm(firm) || !within(at, 0, live.off())) {
            return BAD;
        }
        return live.menAt(firm, at);
    }

    public int stand(int what) {
        if (hasNoTable()) {
            return STATE;
        }
        switch (what) {
            case 0:
                return live.thrower;
            case 1:
                return live.cube;
            case 2:
                return live.owner;
            case 3:
                return live.winner();
            case 4:
                return live.points;
            case 5:
                return live.home;
            default:
                return BAD;
        }
    }

    // ---- foretold

    public int may(int d) {
        if (hasNoTable()) {
            return STATE;
        }
        if (!isThrow(d)) {
            return BAD;
        }
        return live.menWhoCan(live.thrower, d);
    }

    public int whither(int man, int d) {
        if (!isMan(man) || !isThrow(d)) {
            return BAD;
        }
        return live.canGo(man, d) ? live.placeTold(live.aim(man, d)) : NONE;
    }

    public int shots(int man) {
        if (!isMan(man)) {
            return BAD;
        }
        if (live.places[man] >= live.points) {
            return STATE;
        }
        return live.throwsThatHit(man);
    }

    public int enter(int firm) {
        if (hasNoTable()) {
            return STATE;
        }
        if (!isFirm(firm)) {
            return BAD;
        }
        return live.crowd(firm, live.bar()) == 0 ? NONE : live.throwsThatEnter(firm);
    }

    public int pips(int firm, int what) {
        if (hasNoTable()) {
            return STATE;
        }
        if (!isFirm(firm) || !isChoice(what)) {
            return BAD;
        }
        return what == 0 ? live.pipsLeft[firm] : live.lead(firm);
    }

    public int best(int d, int e, int what) {
        if (hasNoTable()) {
            return STATE;
        }
        if (!isThrow(d) || !within(e, 0, DEEPEST_BEST) || !isChoice(what)) {
            return BAD;
        }
        if (isOver()) {
            return STATE;
        }
        foresight.startFrom(live);
        int worth = foresight.greatestWorth(live.thrower, d, e);
        return what == 0 ? foresight.bestMan : worth;
    }

    public int race(int firm) {
        if (hasNoTable()) {
            return STATE;
        }
        if (!isFirm(firm)) {
            return BAD;
        }
        if (!live.hasMen(firm)) {
            return STATE;
        }
        return foresight.turnsAlone(live, firm);
    }

    public int safe(int firm) {
        if (hasNoTable()) {
            return STATE;
        }
        if (!isFirm(firm)) {
            return BAD;
        }
        return live.menInCompany(firm);
    }

    public int cast(int row, int i) {
        if (hasNoTable()) {
            return STATE;
        }
        if (!isRow(row)) {
            return BAD;
        }
        if (isOver()) {
            return STATE;
        }
        int finding = rows.findingFrom(row, i, live.men);
        if (finding != 0) {
            return found(finding);
        }
        rows.read(row, i, live.men, foresight.told);
        return unfound(foresight.throwsSo(live));
    }

    public int played(int d, int row, int i) {
        if (hasNoTable()) {
            return STATE;
        }
        if (!isThrow(d) || !isRow(row)) {
            return BAD;
        }
        if (isOver()) {
            return STATE;
        }
        int finding = rows.findingFrom(row, i, live.men);
        if (finding != 0) {
            return found(finding);
        }
        rows.read(row, i, live.men, foresight.told);
        return unfound(foresight.menSo(live, d));
    }

    public int kinds(int man, int d, int row, int i) {
        if (!isMan(man) || !isThrow(d) || !isRow(row)) {
            return BAD;
        }
        if (isOver()) {
            return STATE;
        }
        int finding = rows.findingFrom(row, i, live.men);
        if (finding != 0) {
            return found(finding);
        }
        rows.read(row, i, live.men, foresight.told);
        return unfound(foresight.kindsSo(live, man, d));
    }

    public long chance(int firm, int n, int what) {
        if (hasNoTable()) {
            return STATE;
        }
        if (!isFirm(firm) || !within(n, 0, LONGEST_CHANCE) || !isChoice(what)) {
            return BAD;
        }
        if (!live.hasMen(firm)) {
            return STATE;
        }
        long all = power(FACES, n);
        long won = foresight.waysToWin(live, firm, n);
        return (what == 0 ? won : all) / commonDivisor(won, all);
    }

    public int drawn(int n, int seed, int what) {
        if (hasNoTable()) {
            return STATE;
        }
        if (!within(n, 0, LONGEST_GAME) || !within(seed, 1, HIGHEST_SEED) || !isChoice(what)) {
            return BAD;
        }
        Board end = foresight.endOfGame(live, n, seed);
        return what == 0 ? end.lead(0) : end.menAt(0, end.off()) | end.menAt(1, end.off());
    }

    public int image(int k) {
        if (!within(k, 0, IMAGES - 1)) {
            return BAD;
        }
        if (hasNoTable()) {
            return STATE;
        }
        images[k].copyFrom(live);
        return 1;
    }

    public int restore(int k) {
        if (!within(k, 0, IMAGES - 1)) {
            return BAD;
        }
        if (images[k].men == 0) {
            return STATE;
        }
        live.copyFrom(images[k]);
        acts.forget();
        return 1;
    }

    // ---- asked

    public int kind(int one) {
        return isMan(one) ? live.kindsTold[one] : BAD;
    }

    public int as(int one, int kind) {
        if (!isMan(one) || !within(kind, 0, KINDS - 1)) {
            return BAD;
        }
        return isKind(live.kindsTold[one], kind) ? unfound(one) : found(KIND);
    }

    public int ask(int one, int what) {
        if (!isMan(one) || !isChoice(what)) {
            return BAD;
        }
        return asks.answerOf(live, one, what);
    }

    public int trace(int i) {
        return within(i, 0, asks.left - 1) ? asks.numbers[i] : NONE;
    }

    public int count(int what) {
        switch (what) {
            case 0:
                return rows.present();
            case 1:
                return live.men;
            case 2:
                return live.turn;
            case 3:
                return live.crowd(0, live.off()) + live.crowd(1, live.off());
            case 4:
                return live.crowd(0, live.bar()) + live.crowd(1, live.bar());
            case 5:
                return live.points;
            case 6:
                return acts.kept;
            case 7:
                return tape.length;
            default:
                return BAD;
        }
    }

    public int status() {
        return latestFinding;
    }

    // ---- what the calls above share

    private static boolean within(int number, int least, int most) {
        return number >= least && number <= most;
    }

    private static boolean isRow(int row) {
        return within(row, 0, Rows.ROWS - 1);
    }

    private static boolean isThrow(int d) {
        return within(d, 1, FACES);
    }

    private static boolean isFirm(int firm) {
        return within(firm, 0, FIRMS - 1);
    }

    private static boolean isChoice(int what) {
        return within(what, 0, 1);
    }

    private boolean isMan(int man) {
        return within(man, 0, live.men - 1);
    }

    /** A table that is read has a man at least. */
    private boolean hasNoTable() {
        return live.men == 0;
    }

    private boolean isOver() {
        return live.winner() != NONE;
    }

    private int found(int finding) {
        latestFinding = finding;
        return FINDINGS - finding;
    }

    private int unfound(int answer) {
        latestFinding = 0;
        return answer;
    }

    private static boolean isKind(int kind, int other) {
        int above = kind;
        for (int step = 0; step < KINDS && above != other; step++) {
            above = KIND_ABOVE[above];
        }
        return above == other;
    }

    private static long power(long base, int exponent) {
        long product = 1;
        for (int i = 0; i < exponent; i++) {
            product *= base;
        }
        return product;
    }

    /** 1 at least, so that it divides safely. */
    private static long commonDivisor(long a, long b) {
        long greater = a, less = b;
        for (int step = 0; step < 100 && less != 0; step++) {
            long rest = greater % less;
            greater = less;
            less = rest;
        }
        return Math.max(1, greater);
    }

    /** Rows of items; all live in one array that is never made anew. */
    private static final class Rows {
        static final int ROWS = 8, LANES = 3, MOST_ITEMS = 40;
        private static final int MISSING = -1;

        private final int[] lanes = new int[ROWS];
        private final int[] sizes = new int[ROWS];
        private final int[] items = new int[ROWS * MOST_ITEMS];

        Rows() {
            for (int row = 0; row < ROWS; row++) {
                lanes[row] = MISSING;
            }
        }

        boolean isMissing(int row) {
            return lanes[row] == MISSING;
        }

        int present() {
            int number = 0;
            for (int row = 0; row < ROWS; row++) {
                if (!isMissing(row)) {
                    number++;
                }
            }
            return number;
        }

        void make(int row, int lane, int n) {
            lanes[row] = lane;
            sizes[row] = n;
            for (int i = 0; i < n; i++) {
                items[row * MOST_ITEMS + i] = 0;
            }
        }

        int remove(int row) {
            lanes[row] = MISSING;
            return sizes[row];
        }

        /** What is found where n items of a row from i on are wanted; 0: nothing. */
        int findingFrom(int row, int i, int n) {
            if (isMissing(row)) {
                return NULL;
            }
            return hasItems(row, i, n) ? 0 : PLACE;
        }

        int copyFinding(int a, int i, int b, int j, int n) {
            if (isMissing(a) || isMissing(b)) {
                return NULL;
            }
            if (lanes[a] != lanes[b]) {
                return STORE;
            }
            return hasItems(a, i, n) && hasItems(b, j, n) ? 0 : PLACE;
        }

        /** Never adds i and n, whose sum may not fit an int. */
        private boolean hasItems(int row, int i, int n) {
            return i >= 0 && n >= 0 && n <= sizes[row] - i;
        }

        int write(int row, int i, int v) {
            int kept = v;
            if (lanes[row] == 0) {
                kept = (byte) v;
            } else if (lanes[row] == 1) {
                kept = (short) v;
            }
            items[row * MOST_ITEMS + i] = kept;
            return kept;
        }

        void carry(int a, int i, int b, int j, int n) {
            System.arraycopy(items, a * MOST_ITEMS + i, items, b * MOST_ITEMS + j, n);
        }

        void read(int row, int i, int n, int[] into) {
            System.arraycopy(items, row * MOST_ITEMS + i, into, 0, n);
        }
    }

    /** The bytes that have come. */
    private static final class Tape {
        private static final int MOST_BYTES = 90;

        private final int[] bytes = new int[MOST_BYTES];
        private int length;

        int append(int letter) {
            if (length >= MOST_BYTES) {
                return FULL;
            }
            bytes[length] = letter;
            length++;
            return length;
        }

        void clear() {
            length = 0;
        }
    }

    /** Reads a tape into a board, up to the first token with a fault. */
    private static final class Reader {
        private final int[] bytes;
        private final int length;
        private final Board board;
        private int at;
        private int faultNumber;
        private int faultPlace;

        Reader(Tape tape, Board board) {
            this.bytes = tape.bytes;
            this.length = tape.length;
            this.board = board;
        }

        boolean readAll() {
            if (!readLaw() || !readMan()) {
                return false;
            }
            // one man more than there is room for ends the reading with a fault
            for (int man = 1; man <= MOST_MEN && at < length; man++) {
                if (!readMan()) {
                    return false;
                }
            }
            return true;
        }

        private boolean readLaw() {
            if (!readSign('t')) {
                return false;
            }
            int points = readNumber(LEAST_POINTS, MOST_POINTS);
            if (points == NONE || !readSign(',')) {
                return false;
            }
            int home = readNumber(1, MOST_HOME);
            if (home == NONE || !readSign(';')) {
                return false;
            }
            board.begin(points, home);
            return true;
        }

        private boolean readMan() {
            int kind = kindHere();
            if (kind == NONE) {
                return fail(MISPLACED);
            }
            if (board.men >= MOST_MEN) {
                return fail(NO_ROOM);
            }
            at++;
            int firm = readNumber(0, FIRMS - 1);
            if (firm == NONE || !readSign(',')) {
                return false;
            }
            int place = readNumber(0, board.bar());
            if (place == NONE || !readSign(';')) {
                return false;
            }
            board.join(kind, firm, place);
            return true;
        }

        private int kindHere() {
            if (at >= length) {
                return NONE;
            }
            switch (bytes[at]) {
                case 'c':
                    return CLERK;
                case 'r':
                    return RUNNER;
                case 'o':
                    return OLD;
                case 'p':
                    return PARTNER;
                case 'b':
                    return BLOT;
                default:
                    return NONE;
            }
        }

        private boolean readSign(int sign) {
            if (at >= length || bytes[at] != sign) {
                return fail(MISPLACED);
            }
            at++;
            return true;
        }

        /** A number as told, or NONE with the fault noted. */
        private int readNumber(int least, int most) {
            int end = at;
            int number = 0;
            while (end < length && end < at + 3 && isFigure(bytes[end])) {
                number = 10 * number + bytes[end] - '0';
                end++;
            }
            if (end == at || end == at + 3) {
                fail(MISPLACED);
                return NONE;
            }
            if (!within(number, least, most)) {
                fail(NOT_AS_TOLD);
                return NONE;
            }
            at = end;
            return number;
        }

        private static boolean isFigure(int letter) {
            return letter >= '0' && letter <= '9';
        }

        private boolean fail(int number) {
            faultNumber = number;
            faultPlace = at;
            return false;
        }
    }

    /**
     * A table as it stands. A man's place is a point, or as many as there are points for the bar,
     * or one more for off. Every change of place goes through put(), which keeps the sums right.
     */
    private static final class Board {
        private int points;
        private int home;
        private int men;
        private int turn;
        private int thrower;
        private int cube;
        private int owner = NONE;
        private final int[] firms = new int[MOST_MEN];
        private final int[] kindsTold = new int[MOST_MEN];
        private final int[] places = new int[MOST_MEN];
        private final int[] crowds = new int[FIRMS * MOST_PLACES];
        private final int[] pipsLeft = new int[FIRMS];
        private final int[] notHome = new int[FIRMS];

        void begin(int points, int home) {
            this.points = points;
            this.home = home;
            men = 0;
            turn = 0;
            thrower = 0;
            cube = 1;
            owner = NONE;
            Arrays.fill(crowds, 0);
            Arrays.fill(pipsLeft, 0);
            Arrays.fill(notHome, 0);
        }

        void join(int kind, int firm, int at) {
            int one = men;
            kindsTold[one] = kind;
            firms[one] = firm;
            places[one] = at;
            men++;
            tally(one, 1);
        }

        void copyFrom(Board other) {
            points = other.points;
            home = other.home;
            men = other.men;
            turn = other.turn;
            thrower = other.thrower;
            cube = other.cube;
            owner = other.owner;
            System.arraycopy(other.firms, 0, firms, 0, MOST_MEN);
            System.arraycopy(other.kindsTold, 0, kindsTold, 0, MOST_MEN);
            System.arraycopy(other.places, 0, places, 0, MOST_MEN);
            System.arraycopy(other.crowds, 0, crowds, 0, FIRMS * MOST_PLACES);
            System.arraycopy(other.pipsLeft, 0, pipsLeft, 0, FIRMS);
            System.arraycopy(other.notHome, 0, notHome, 0, FIRMS);
        }

        int bar() {
            return points;
        }

        int off() {
            return points + 1;
        }

        int crowd(int firm, int at) {
            return crowds[firm * MOST_PLACES + at];
        }

        void put(int one, int at) {
            tally(one, -1);
            places[one] = at;
            tally(one, 1);
        }

        private void tally(int one, int by) {
            int firm = firms[one];
            int left = pipsOf(one);
            crowds[firm * MOST_PLACES + places[one]] += by;
            pipsLeft[firm] += by * left;
            if (left > home) {
                notHome[firm] += by;
            }
        }

        int pipsOf(int one) {
            int at = places[one];
            if (at > points) {
                return 0;
            }
            if (at == points) {
                return points + 1;
            }
            return firms[one] == 0 ? points - at : at + 1;
        }

        int lead(int firm) {
            return pipsLeft[1 - firm] - pipsLeft[firm];
        }

        boolean hasMen(int firm) {
            return pipsLeft[firm] > 0 || crowd(firm, off()) > 0;
        }

        boolean hasWon(int firm) {
            return pipsLeft[firm] == 0 && crowd(firm, off()) > 0;
        }

        int winner() {
            for (int firm = 0; firm < FIRMS; firm++) {
                if (hasWon(firm)) {
                    return firm;
                }
            }
            return NONE;
        }

        int menAt(int firm, int at) {
            int bits = 0;
            for (int one = 0; one < men; one++) {
                if (firms[one] == firm && places[one] == at) {
                    bits |= 1 << one;
                }
            }
            return bits;
        }

        int menInCompany(int firm) {
            int bits = 0;
            for (int one = 0; one < men; one++) {
                int at = places[one];
                if (firms[one] == firm && at < points && crowd(firm, at) >= 2) {
                    bits |= 1 << one;
                }
            }
            return bits;
        }

        /** Where calls tell by as many as there are points that one is off. */
        int placeTold(int at) {
            return at == off() ? points : at;
        }

        private int stride(int one, int d) {
            switch (kindsTold[one]) {
                case RUNNER:
                    return d + 1;
                case OLD:
                    return (d + 1) / 2;
                default:
                    return d;
            }
        }

        /** The place to which one would come, whether he can go or not. */
        int aim(int one, int d) {
            int left = pipsOf(one) - stride(one, d);
            if (left <= 0) {
                return off();
            }
            return firms[one] == 0 ? points - left : left - 1;
        }

        boolean canGo(int one, int d) {
            int firm = firms[one];
            int from = places[one];
            if (from == off() || (from != bar() && crowd(firm, bar()) > 0)) {
                return false;
            }
            int to = aim(one, d);
            if (to == off()) {
                return notHome[firm] == 0;
            }
            return crowd(1 - firm, to) < 2 && dares(one, to);
        }

        /** Whether his kind lets him go to a point. */
        private boolean dares(int one, int to) {
            int kind = kindsTold[one];
            if (!isKind(kind, PARTNER)) {
                return true;
            }
            int firm = firms[one];
            int from = places[one];
            if (from == bar() || crowd(firm, from) >= 2 || crowd(firm, to) >= 1) {
                return true;
            }
            return kind == BLOT && crowd(1 - firm, to) == 1;
        }

        /** One goes who can: who is hit, or NONE. */
        int go(int one, int d) {
            int to = aim(one, d);
            int hit = loneOn(1 - firms[one], to);
            put(one, to);
            if (hit != NONE) {
                put(hit, bar());
            }
            return hit;
        }

        private int loneOn(int firm, int at) {
            if (at >= points || crowd(firm, at) != 1) {
                return NONE;
            }
            for (int one = 0; one < men; one++) {
                if (firms[one] == firm && places[one] == at) {
                    return one;
                }
            }
            return NONE;
        }

        int chosenByRule(int firm, int d) {
            int chosen = NONE;
            int most = 0;
            for (int one = 0; one < men; one++) {
                if (firms[one] == firm && pipsOf(one) > most && canGo(one, d)) {
                    chosen = one;
                    most = pipsOf(one);
                }
            }
            return chosen;
        }

        int turnByRule(int d) {
            int chosen = chosenByRule(thrower, d);
            if (chosen != NONE) {
                go(chosen, d);
            }
            passThrow();
            return chosen;
        }

        void passThrow() {
            thrower = 1 - thrower;
            turn++;
        }

        int menWhoCan(int firm, int d) {
            int bits = 0;
            for (int one = 0; one < men; one++) {
                if (firms[one] == firm && canGo(one, d)) {
                    bits |= 1 << one;
                }
            }
            return bits;
        }

        int throwsThatHit(int target) {
            int bits = 0;
            for (int one = 0; one < men; one++) {
                for (int d = 1; d <= FACES; d++) {
                    if (hits(one, d, target)) {
                        bits |= 1 << d;
                    }
                }
            }
            return bits;
        }

        private boolean hits(int one, int d, int target) {
            int firm = firms[target];
            return firms[one] != firm && aim(one, d) == places[target]
                    && crowd(firm, places[target]) == 1 && canGo(one, d);
        }

        int throwsThatEnter(int firm) {
            int bits = 0;
            for (int d = 1; d <= FACES; d++) {
                // with one on the bar none but those who are there can go
                if (menWhoCan(firm, d) != 0) {
                    bits |= 1 << d;
                }
            }
            return bits;
        }
    }

    /** The acts that can be undone: how all stood ahead of each, in a ring. */
    private static final class Acts {
        private static final int MOST_ACTS = 24;
        private static final int PART = MOST_MEN + 4;

        private final int[] before = new int[MOST_ACTS * PART];
        private int next;
        private int kept;

        void forget() {
            kept = 0;
        }

        void keep(Board board) {
            int from = next * PART;
            System.arraycopy(board.places, 0, before, from, MOST_MEN);
            before[from + MOST_MEN] = board.turn;
            before[from + MOST_MEN + 1] = board.thrower;
            before[from + MOST_MEN + 2] = board.cube;
            before[from + MOST_MEN + 3] = board.owner;
            next = (next + 1) % MOST_ACTS;
            kept = Math.min(kept + 1, MOST_ACTS);
        }

        void takeBack(Board board) {
            next = (next + MOST_ACTS - 1) % MOST_ACTS;
            kept--;
            int from = next * PART;
            for (int one = 0; one < board.men; one++) {
                board.put(one, before[from + one]);
            }
            board.turn = before[from + MOST_MEN];
            board.thrower = before[from + MOST_MEN + 1];
            board.cube = before[from + MOST_MEN + 2];
            board.owner = before[from + MOST_MEN + 3];
        }
    }

    /** What would be: all of it happens on a spare board, made once. */
    private static final class Foresight {
        private static final int TOLD_OFF = 99;
        private static final long FACTOR = 16807L, MODULUS = 2147483647L;

        private final Board spare = new Board();
        /** Where a row tells that each man is. */
        private final int[] told = new int[MOST_MEN];
        private int bestMan = NONE;

        void startFrom(Board live) {
            spare.copyFrom(live);
        }

        /** Leaves who goes in bestMan, too: the outermost search ends last, so that its man stays. */
        private int greatestWorth(int firm, int d, int depth) {
            int chosen = NONE;
            int greatest = 0;
            for (int one = 0; one < spare.men; one++) {
                if (spare.firms[one] == firm && spare.canGo(one, d)) {
                    int worth = worthBehind(one, d, depth);
                    if (chosen == NONE || worth > greatest) {
                        chosen = one;
                        greatest = worth;
                    }
                }
            }
            if (chosen == NONE) {
                greatest = worthTo(firm, depth);
            }
            bestMan = chosen;
            return greatest;
        }

        private int worthBehind(int one, int d, int depth) {
            int from = spare.places[one];
            int hit = spare.go(one, d);
            int to = spare.places[one];
            int worth = worthTo(spare.firms[one], depth);
            spare.put(one, from);
            if (hit != NONE) {
                spare.put(hit, to);
            }
            return worth;
        }

        private int worthTo(int firm, int depth) {
            if (depth <= 0) {
                return spare.lead(firm);
            }
            int sum = 0;
            for (int d = 1; d <= FACES; d++) {
                sum += greatestWorth(1 - firm, d, depth - 1);
            }
            return -sum;
        }

        int turnsAlone(Board live, int firm) {
            leaveAlone(live, firm);
            for (int turns = 0; turns <= LONGEST_RACE; turns++) {
                if (spare.hasWon(firm)) {
                    return turns;
                }
                int chosen = spare.chosenByRule(firm, FACES);
                if (chosen != NONE) {
                    spare.go(chosen, FACES);
                }
            }
            return NONE;
        }

        long waysToWin(Board live, int firm, int n) {
            leaveAlone(live, firm);
            return winsWithin(spare, firm, n);
        }

        /** A function that calls itself is static: LANGUAGE.md, rule 8. */
        private static long winsWithin(Board board, int firm, int n) {
            if (board.hasWon(firm)) {
                return power(FACES, n);
            }
            if (n <= 0) {
                return 0;
            }
            long wins = 0;
            for (int d = 1; d <= FACES; d++) {
                int chosen = board.chosenByRule(firm, d);
                if (chosen == NONE) {
                    wins += winsWithin(board, firm, n - 1);
                } else {
                    int from = board.places[chosen];
                    board.go(chosen, d);
                    wins += winsWithin(board, firm, n - 1);
                    board.put(chosen, from);
                }
            }
            return wins;
        }

        /** Those who are off stand in nobody's way, so the other firm is put there. */
        private void leaveAlone(Board live, int firm) {
            spare.copyFrom(live);
            for (int one = 0; one < spare.men; one++) {
                if (spare.firms[one] != firm) {
                    spare.put(one, spare.off());
                }
            }
        }

        int throwsSo(Board live) {
            int bits = 0;
            for (int d = 1; d <= FACES; d++) {
                spare.copyFrom(live);
                spare.turnByRule(d);
                if (isAsTold()) {
                    bits |= 1 << d;
                }
            }
            return bits;
        }

        int menSo(Board live, int d) {
            int bits = 0;
            int able = live.menWhoCan(live.thrower, d);
            for (int one = 0; one < live.men; one++) {
                if ((able & (1 << one)) != 0) {
                    spare.copyFrom(live);
                    spare.go(one, d);
                    if (isAsTold()) {
                        bits |= 1 << one;
                    }
                }
            }
            return bits;
        }

        int kindsSo(Board live, int one, int d) {
            int bits = 0;
            for (int kind = CLERK; kind < KINDS; kind++) {
                spare.copyFrom(live);
                spare.kindsTold[one] = kind;
                spare.turnByRule(d);
                if (isAsTold()) {
                    bits |= 1 << kind;
                }
            }
            return bits;
        }

        private boolean isAsTold() {
            for (int one = 0; one < spare.men; one++) {
                int at = spare.places[one];
                if (told[one] != (at == spare.off() ? TOLD_OFF : at)) {
                    return false;
                }
            }
            return true;
        }

        Board endOfGame(Board live, int n, int seed) {
            spare.copyFrom(live);
            long x = seed;
            for (int i = 0; i < n && spare.winner() == NONE; i++) {
                x = x * FACTOR % MODULUS;
                spare.turnByRule(1 + (int) (x % FACES));
            }
            return spare;
        }
    }

    /** What is asked of men, by bodies that leave their numbers as they begin. */
    private static final class Asks {
        private static final int ASK_SIZE = 0, ASK_MARK = 1;
        private static final int LONGEST_TRACE = 16, DEEPEST_BODY = 20;
        /** The body told for each kind; 0: none is. */
        private static final int[] SIZE_BODIES = {10, 11, 12, 0, 13, 14};
        private static final int[] MARK_BODIES = {20, 21, 24, 22, 23, 0};

        private final int[] numbers = new int[LONGEST_TRACE];
        private int left;

        int answerOf(Board board, int one, int what) {
            left = 0;
            return anew(this, board, one, what, 0);
        }

        private static int anew(Asks asks, Board board, int one, int what, int depth) {
            int kind = board.kindsTold[one];
            int told = bodyTold(what, kind);
            for (int step = 0; step < KINDS && told == 0; step++) {
                kind = KIND_ABOVE[kind];
                told = bodyTold(what, kind);
            }
            return begun(asks, board, one, told, depth);
        }

        private static int bodyTold(int what, int kind) {
            return what == ASK_SIZE ? SIZE_BODIES[kind] : MARK_BODIES[kind];
        }

        /** A function that calls itself is static: LANGUAGE.md, rule 8. */
        private static int begun(Asks asks, Board board, int one, int body, int depth) {
            if (depth > DEEPEST_BODY) {
                return 0;
            }
            asks.leave(body);
            int next = depth + 1;
            switch (body) {
                case 10:
                    return board.pipsOf(one);
                case 11:
                    return begun(asks, board, one, 10, next) + anew(asks, board, one, ASK_MARK, next);
                case 12:
                    return -begun(asks, board, one, 11, next);
                case 13:
                    return begun(asks, board, one, 10, next) - 100;
                case 14:
                    return 2 * begun(asks, board, one, 13, next);
                case 20:
                    return one;
                case 21:
                    return begun(asks, board, one, 20, next) + board.cube;
                case 22:
                    return begun(asks, board, one, 21, next) - 1000;
                case 23:
                    return begun(asks, board, one, 20, next) - anew(asks, board, one, ASK_SIZE, next);
                case 24:
                    return 2 * begun(asks, board, one, 21, next);
                default:
                    return 0;
            }
        }

        private void leave(int body) {
            if (left < LONGEST_TRACE) {
                numbers[left] = body;
                left++;
            }
        }
    }
}
