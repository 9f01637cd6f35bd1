import java.util.ArrayDeque;
import java.util.ArrayList;
import java.util.Arrays;
import java.util.Collections;
import java.util.Deque;
import java.util.List;

/**
 * The document said over again, slowly and in another way, for random runs to be compared with:
 * every table is a value of its own, nothing is summed up ahead, kinds are classes.
 */
final class PlainFirms {
    static final int NONE = -1000000, BAD = -1000001, STATE = -1000002, FULL = -1000003;
    static final int BAR = 100, OFF = 200;

    // ---- kinds of men, as a tree of types

    interface Man {
        int number();

        int pips();

        int cube();

        List<Integer> trace();

        default int size() {
            trace().add(10);
            return pips();
        }

        default int mark() {
            trace().add(20);
            return number();
        }

        default int goes(int d) {
            return d;
        }
    }

    static class Base implements Man {
        final int number, pips, cube;
        final List<Integer> trace;

        Base(int number, int pips, int cube, List<Integer> trace) {
            this.number = number;
            this.pips = pips;
            this.cube = cube;
            this.trace = trace;
        }

        public int number() {
            return number;
        }

        public int pips() {
            return pips;
        }

        public int cube() {
            return cube;
        }

        public List<Integer> trace() {
            return trace;
        }
    }

    static class Clerk extends Base {
        Clerk(int n, int p, int c, List<Integer> t) {
            super(n, p, c, t);
        }

        @Override
        public int size() {
            trace().add(11);
            int below = super.size();
            return below + mark();
        }

        @Override
        public int mark() {
            trace().add(21);
            return super.mark() + cube();
        }
    }

    static final class Runner extends Clerk {
        Runner(int n, int p, int c, List<Integer> t) {
            super(n, p, c, t);
        }

        @Override
        public int size() {
            trace().add(12);
            return 0 - super.size();
        }

        @Override
        public int mark() {
            trace().add(24);
            int once = super.mark();
            return once + once;
        }

        @Override
        public int goes(int d) {
            return d + 1;
        }
    }

    static final class Old extends Clerk {
        Old(int n, int p, int c, List<Integer> t) {
            super(n, p, c, t);
        }

        @Override
        public int mark() {
            trace().add(22);
            return super.mark() - 1000;
        }

        @Override
        public int goes(int d) {
            return d / 2 + d % 2;
        }
    }

    static class Partner extends Base {
        Partner(int n, int p, int c, List<Integer> t) {
            super(n, p, c, t);
        }

        @Override
        public int size() {
            trace().add(13);
            return super.size() - 100;
        }

        @Override
        public int mark() {
            trace().add(23);
            int number = super.mark();
            return number - size();
        }
    }

    static final class Blot extends Partner {
        Blot(int n, int p, int c, List<Integer> t) {
            super(n, p, c, t);
        }

        @Override
        public int size() {
            trace().add(14);
            int once = super.size();
            return once + once;
        }
    }

    private static Man manOf(int kind, int n, int p, int c, List<Integer> t) {
        switch (kind) {
            case 1: return new Clerk(n, p, c, t);
            case 2: return new Runner(n, p, c, t);
            case 3: return new Old(n, p, c, t);
            case 4: return new Partner(n, p, c, t);
            default: return new Blot(n, p, c, t);
        }
    }

    private static final Class<?>[] TYPES = {Man.class, Clerk.class, Runner.class, Old.class, Partner.class, Blot.class};

    // ---- a table as a value

    static final class Table {
        final int points, home;
        final int[] firm, kind, at;
        final int turn, thrower, cube, owner;

        Table(int points, int home, int[] firm, int[] kind, int[] at, int[] rest) {
            this.points = points;
            this.home = home;
            this.firm = firm;
            this.kind = kind;
            this.at = at;
            this.turn = rest[0];
            this.thrower = rest[1];
            this.cube = rest[2];
            this.owner = rest[3];
        }

        Table standing(int[] at) {
            return new Table(points, home, firm, kind, at, new int[] {turn, thrower, cube, owner});
        }

        Table with(int one, int place) {
            int[] moved = at.clone();
            moved[one] = place;
            return standing(moved);
        }

        Table passed() {
            return new Table(points, home, firm, kind, at, new int[] {turn + 1, 1 - thrower, cube, owner});
        }

        Table doubled() {
            return new Table(points, home, firm, kind, at, new int[] {turn, thrower, cube * 2, 1 - thrower});
        }

        Table ofKind(int one, int k) {
            int[] others = kind.clone();
            others[one] = k;
            return new Table(points, home, firm, others, at, new int[] {turn, thrower, cube, owner});
        }

        /** Only those of one firm, with their numbers. */
        Table without(int gone) {
            int[] firms = firm.clone();
            for (int m = 0; m < firms.length; m++) {
                if (firms[m] == gone) {
                    firms[m] = 7;
                }
            }
            return new Table(points, home, firms, kind, at, new int[] {turn, thrower, cube, owner});
        }

        int men() {
            return at.length;
        }

        int pips(int m) {
            if (at[m] == OFF) {
                return 0;
            }
            if (at[m] == BAR) {
                return points + 1;
            }
            return firm[m] == 0 ? points - at[m] : at[m] + 1;
        }

        List<Integer> of(int f, int place) {
            List<Integer> found = new ArrayList<>();
            for (int m = 0; m < men(); m++) {
                if (firm[m] == f && at[m] == place) {
                    found.add(m);
                }
            }
            return found;
        }

        boolean allHome(int f) {
            for (int m = 0; m < men(); m++) {
                if (firm[m] == f && pips(m) > home) {
                    return false;
                }
            }
            return true;
        }

        int total(int f) {
            int sum = 0;
            for (int m = 0; m < men(); m++) {
                sum += firm[m] == f ? pips(m) : 0;
            }
            return sum;
        }

        boolean any(int f) {
            for (int x : firm) {
                if (x == f) {
                    return true;
                }
            }
            return false;
        }

        boolean won(int f) {
            boolean all = any(f);
            for (int m = 0; m < men(); m++) {
                all &= firm[m] != f || at[m] == OFF;
            }
            return all;
        }

        int winner() {
            return won(0) ? 0 : won(1) ? 1 : NONE;
        }

        int comesTo(int m, int d) {
            int left = pips(m) - manOf(kind[m], m, 0, 0, null).goes(d);
            if (left <= 0) {
                return OFF;
            }
            return firm[m] == 0 ? points - left : left - 1;
        }

        boolean can(int m, int d) {
            if (at[m] == OFF) {
                return false;
            }
            for (int x : of(firm[m], BAR)) {
                if (x != m && at[m] != BAR) {
                    return false;
                }
            }
            int to = comesTo(m, d);
            if (to == OFF && !allHome(firm[m])) {
                return false;
            }
            int others = to == OFF ? 0 : of(1 - firm[m], to).size();
            if (others >= 2) {
                return false;
            }
            if (kind[m] != 4 && kind[m] != 5) {
                return true;
            }
            boolean partnered = at[m] == BAR || to == OFF || of(firm[m], to).size() > 0 || of(firm[m], at[m]).size() > 1;
            return partnered || kind[m] == 5 && others == 1;
        }

        Table gone(int m, int d) {
            int to = comesTo(m, d);
            Table then = with(m, to);
            if (to != OFF && of(1 - firm[m], to).size() == 1) {
                then = then.with(of(1 - firm[m], to).get(0), BAR);
            }
            return then;
        }

        List<Integer> able(int f, int d) {
            List<Integer> who = new ArrayList<>();
            for (int m = 0; m < men(); m++) {
                if (firm[m] == f && can(m, d)) {
                    who.add(m);
                }
            }
            return who;
        }

        int rule(int f, int d) {
            int most = NONE;
            for (int m : able(f, d)) {
                if (most == NONE || pips(m) > pips(most)) {
                    most = m;
                }
            }
            return most;
        }

        Table ruled(int f, int d) {
            int m = rule(f, d);
            return m == NONE ? this : gone(m, d);
        }

        int lead(int f) {
            return total(1 - f) - total(f);
        }

        int worth(int f, int e) {
            if (e == 0) {
                return lead(f);
            }
            int sum = 0;
            for (int d = 1; d <= 6; d++) {
                List<Integer> who = able(1 - f, d);
                List<Integer> worths = new ArrayList<>();
                for (int m : who) {
                    worths.add(gone(m, d).worth(1 - f, e - 1));
                }
                sum += who.isEmpty() ? worth(1 - f, e - 1) : Collections.max(worths);
            }
            return -sum;
        }

        long wins(int f, int n) {
            if (n == 0) {
                return won(f) ? 1 : 0;
            }
            long sum = 0;
            for (int d = 1; d <= 6; d++) {
                sum += ruled(f, d).wins(f, n - 1);
            }
            return sum;
        }

        int[] told() {
            int[] items = new int[men()];
            for (int m = 0; m < men(); m++) {
                items[m] = at[m] == OFF ? 99 : at[m] == BAR ? points : at[m];
            }
            return items;
        }

        /** As lay and on name places: the bar is as many as there are points, off 1 more. */
        int named(int place) {
            return place == BAR ? points : place == OFF ? points + 1 : place;
        }

        int unnamed(int place) {
            return place == points ? BAR : place == points + 1 ? OFF : place;
        }
    }

    // ---- the object

    private final int[][] rows = new int[8][];
    private final int[] lanes = new int[8];
    private final StringBuilder tape = new StringBuilder();
    Table now;
    private final Table[] images = new Table[2];
    private final Deque<Table> acts = new ArrayDeque<>();
    private List<Integer> trace = new ArrayList<>();
    private int latestFault, latestFinding;

    private static boolean in(int v, int a, int b) {
        return a <= v && v <= b;
    }

    private int finding(int k) {
        latestFinding = k;
        return -1000010 - k;
    }

    private int ok(int v) {
        latestFinding = 0;
        return v;
    }

    public int row(int row, int lane, int n) {
        if (!in(row, 0, 7) || !in(lane, 0, 2) || n > 40) return BAD;
        if (n < 0) return finding(4);
        rows[row] = new int[n];
        lanes[row] = lane;
        return ok(n);
    }

    public int set(int row, int i, int v) {
        if (!in(row, 0, 7)) return BAD;
        if (rows[row] == null) return finding(1);
        if (!in(i, 0, rows[row].length - 1)) return finding(2);
        int bits = lanes[row] == 0 ? 8 : lanes[row] == 1 ? 16 : 32;
        rows[row][i] = v << 32 - bits >> 32 - bits;
        return ok(rows[row][i]);
    }

    public int copy(int a, int i, int b, int j, int n) {
        if (!in(a, 0, 7) || !in(b, 0, 7)) return BAD;
        if (rows[a] == null || rows[b] == null) return finding(1);
        if (lanes[a] != lanes[b]) return finding(5);
        if (i < 0 || j < 0 || n < 0 || (long) i + n > rows[a].length || (long) j + n > rows[b].length) return finding(2);
        int[] part = Arrays.copyOfRange(rows[a], i, i + n);
        for (int k = 0; k < n; k++) {
            rows[b][j + k] = part[k];
        }
        return ok(n);
    }

    public int drop(int row) {
        if (!in(row, 0, 7)) return BAD;
        if (rows[row] == null) return finding(1);
        int n = rows[row].length;
        rows[row] = null;
        return ok(n);
    }

    public int feed(int letter) {
        if (!in(letter, 0, 255)) return BAD;
        if (tape.length() == 90) return FULL;
        tape.append((char) letter);
        return tape.length();
    }

    /** Cuts the whole text into tokens first, then holds the tokens against the pattern. */
    public int table() {
        String text = tape.toString();
        tape.setLength(0);
        List<String> tokens = new ArrayList<>();
        List<Integer> places = new ArrayList<>();
        for (int p = 0; p < text.length();) {
            int end = p + 1;
            if (Character.isDigit(text.charAt(p)) && text.charAt(p) < 128) {
                while (end < text.length() && text.charAt(end) >= '0' && text.charAt(end) <= '9') {
                    end++;
                }
            }
            tokens.add(text.substring(p, end));
            places.add(p);
            p = end;
        }
        tokens.add("");
        places.add(text.length());
        List<Integer> numbers = new ArrayList<>();
        String sorts = "";
        String pattern = "tn,n;";
        int t = 0;
        for (int round = 0; round == 0 || round == 1 || t < tokens.size() - 1; round++) {
            for (char want : (round == 0 ? pattern : "sn,n;").toCharArray()) {
                String token = tokens.get(t);
                int fault = 0;
                if (want == 'n') {
                    boolean number = token.matches("[0-9]{1,2}");
                    fault = !number ? 1 : fits(numbers, Integer.parseInt(token)) ? 0 : 2;
                    if (fault == 0) {
                        numbers.add(Integer.parseInt(token));
                    }
                } else if (want == 's') {
                    fault = !token.matches("[cropb]") ? 1 : round > 8 ? 3 : 0;
                    sorts += token;
                } else if (!token.equals(String.valueOf(want))) {
                    fault = 1;
                }
                if (fault != 0) {
                    latestFault = fault;
                    return -1000100 - places.get(t);
                }
                t++;
            }
        }
        int men = sorts.length();
        int[] firm = new int[men], kind = new int[men], at = new int[men];
        for (int m = 0; m < men; m++) {
            kind[m] = 1 + "cropb".indexOf(sorts.charAt(m));
            firm[m] = numbers.get(2 + 2 * m);
            int place = numbers.get(3 + 2 * m);
            at[m] = place == numbers.get(0) ? BAR : place;
        }
        now = new Table(numbers.get(0), numbers.get(1), firm, kind, at, new int[] {0, 0, 1, NONE});
        acts.clear();
        return men;
    }

    private static boolean fits(List<Integer> before, int number) {
        switch (before.size()) {
            case 0: return in(number, 4, 12);
            case 1: return in(number, 1, 4);
            default: return in(number, 0, before.size() % 2 == 0 ? 1 : before.get(0));
        }
    }

    public int fault() {
        return latestFault;
    }

    public int undo() {
        if (acts.isEmpty()) return STATE;
        now = acts.pop();
        return acts.size();
    }

    private void act(Table then) {
        acts.push(now);
        if (acts.size() > 24) {
            acts.removeLast();
        }
        now = then;
    }

    private boolean man(int m) {
        return now != null && in(m, 0, now.men() - 1);
    }

    private boolean over() {
        return now.winner() != NONE;
    }

    public int play(int d) {
        if (now == null) return STATE;
        if (!in(d, 1, 6)) return BAD;
        if (over()) return STATE;
        if (now.turn == 999) return FULL;
        int who = now.rule(now.thrower, d);
        act(now.ruled(now.thrower, d).passed());
        return who;
    }

    public int move(int man, int d) {
        if (!man(man) || !in(d, 1, 6)) return BAD;
        if (over() || now.firm[man] != now.thrower || !now.can(man, d)) return STATE;
        if (now.turn == 999) return FULL;
        act(now.gone(man, d).passed());
        return now.at[man] == OFF ? now.points : now.at[man];
    }

    public int twice() {
        if (now == null || over() || now.owner == 1 - now.thrower || now.cube == 64) return STATE;
        act(now.doubled());
        return now.cube;
    }

    public int lay(int man, int at) {
        if (!man(man) || !in(at, 0, now.points)) return BAD;
        int was = now.named(now.at[man]);
        if (was == at) return STATE;
        act(now.with(man, now.unnamed(at)));
        return was;
    }

    public int man(int man, int what) {
        if (!man(man) || !in(what, 0, 3)) return BAD;
        if (what == 0) return now.firm[man];
        if (what == 1) return now.at[man] == OFF ? NONE : now.named(now.at[man]);
        if (what == 2) return now.pips(man);
        return now.at[man] == OFF || now.pips(man) <= now.home ? 1 : 0;
    }

    private static int bits(List<Integer> numbers) {
        int sum = 0;
        for (int n : numbers) {
            sum += 1 << n;
        }
        return sum;
    }

    public int on(int firm, int at) {
        if (now == null || !in(firm, 0, 1) || !in(at, 0, now.points + 1)) return BAD;
        return bits(now.of(firm, now.unnamed(at)));
    }

    public int stand(int what) {
        if (now == null) return STATE;
        if (!in(what, 0, 5)) return BAD;
        return new int[] {now.thrower, now.cube, now.owner, now.winner(), now.points, now.home}[what];
    }

    public int may(int d) {
        if (now == null) return STATE;
        if (!in(d, 1, 6)) return BAD;
        return bits(now.able(now.thrower, d));
    }

    public int whither(int man, int d) {
        if (!man(man) || !in(d, 1, 6)) return BAD;
        if (!now.can(man, d)) return NONE;
        int to = now.comesTo(man, d);
        return to == OFF ? now.points : to;
    }

    public int shots(int man) {
        if (!man(man)) return BAD;
        if (now.at[man] == BAR || now.at[man] == OFF) return STATE;
        int set = 0;
        for (int d = 1; d <= 6; d++) {
            for (int m : now.able(1 - now.firm[man], d)) {
                if (now.gone(m, d).at[man] == BAR) {
                    set |= 1 << d;
                }
            }
        }
        return set;
    }

    public int enter(int firm) {
        if (now == null) return STATE;
        if (!in(firm, 0, 1)) return BAD;
        if (now.of(firm, BAR).isEmpty()) return NONE;
        int set = 0;
        for (int d = 1; d <= 6; d++) {
            for (int m : now.of(firm, BAR)) {
                set |= now.can(m, d) ? 1 << d : 0;
            }
        }
        return set;
    }

    public int pips(int firm, int what) {
        if (now == null) return STATE;
        if (!in(firm, 0, 1) || !in(what, 0, 1)) return BAD;
        return what == 0 ? now.total(firm) : now.lead(firm);
    }

    public int best(int d, int e, int what) {
        if (now == null) return STATE;
        if (!in(d, 1, 6) || !in(e, 0, 2) || !in(what, 0, 1)) return BAD;
        if (over()) return STATE;
        int who = NONE;
        int worth = 0;
        for (int m : now.able(now.thrower, d)) {
            int w = now.gone(m, d).worth(now.thrower, e);
            if (who == NONE || w > worth) {
                who = m;
                worth = w;
            }
        }
        if (who == NONE) {
            worth = now.worth(now.thrower, e);
        }
        return what == 0 ? who : worth;
    }

    public int race(int firm) {
        if (now == null) return STATE;
        if (!in(firm, 0, 1)) return BAD;
        if (!now.any(firm)) return STATE;
        Table alone = now.without(1 - firm);
        int turns = 0;
        while (!alone.won(firm)) {
            alone = alone.ruled(firm, 6);
            turns++;
            if (turns > 60) {
                return NONE;
            }
        }
        return turns;
    }

    public int safe(int firm) {
        if (now == null) return STATE;
        if (!in(firm, 0, 1)) return BAD;
        int set = 0;
        for (int p = 0; p < now.points; p++) {
            List<Integer> there = now.of(firm, p);
            set |= there.size() > 1 ? bits(there) : 0;
        }
        return set;
    }

    private int rowFinding(int row, int i) {
        if (rows[row] == null) return 1;
        return i < 0 || (long) i + now.men() > rows[row].length ? 2 : 0;
    }

    private boolean so(Table then, int row, int i) {
        return Arrays.equals(then.told(), Arrays.copyOfRange(rows[row], i, i + now.men()));
    }

    public int cast(int row, int i) {
        if (now == null) return STATE;
        if (!in(row, 0, 7)) return BAD;
        if (over()) return STATE;
        if (rowFinding(row, i) != 0) return finding(rowFinding(row, i));
        int set = 0;
        for (int d = 1; d <= 6; d++) {
            set |= so(now.ruled(now.thrower, d), row, i) ? 1 << d : 0;
        }
        return ok(set);
    }

    public int played(int d, int row, int i) {
        if (now == null) return STATE;
        if (!in(d, 1, 6) || !in(row, 0, 7)) return BAD;
        if (over()) return STATE;
        if (rowFinding(row, i) != 0) return finding(rowFinding(row, i));
        List<Integer> who = now.able(now.thrower, d);
        who.removeIf(m -> !so(now.gone(m, d), row, i));
        return ok(bits(who));
    }

    public int kinds(int man, int d, int row, int i) {
        if (!man(man) || !in(d, 1, 6) || !in(row, 0, 7)) return BAD;
        if (over()) return STATE;
        if (rowFinding(row, i) != 0) return finding(rowFinding(row, i));
        int set = 0;
        for (int k = 1; k <= 5; k++) {
            set |= so(now.ofKind(man, k).ruled(now.thrower, d), row, i) ? 1 << k : 0;
        }
        return ok(set);
    }

    public long chance(int firm, int n, int what) {
        if (now == null) return STATE;
        if (!in(firm, 0, 1) || !in(n, 0, 3) || !in(what, 0, 1)) return BAD;
        if (!now.any(firm)) return STATE;
        long above = now.without(1 - firm).wins(firm, n);
        long below = (long) Math.pow(6, n);
        for (int p = 2; p <= 3; p++) {
            while (above % p == 0 && below % p == 0) {
                above /= p;
                below /= p;
            }
        }
        return what == 0 ? above : below;
    }

    public int drawn(int n, int seed, int what) {
        if (now == null) return STATE;
        if (!in(n, 0, 60) || !in(seed, 1, 999999) || !in(what, 0, 1)) return BAD;
        long x = seed;
        Table t = now;
        for (int i = 0; i < n; i++) {
            x = x * 16807 % 2147483647L;
            if (t.winner() == NONE) {
                t = t.ruled(t.thrower, (int) (x % 6) + 1).passed();
            }
        }
        return what == 0 ? t.lead(0) : bits(t.of(0, OFF)) + bits(t.of(1, OFF));
    }

    public int image(int k) {
        if (!in(k, 0, 1)) return BAD;
        if (now == null) return STATE;
        images[k] = now;
        return 1;
    }

    public int restore(int k) {
        if (!in(k, 0, 1)) return BAD;
        if (images[k] == null) return STATE;
        now = images[k];
        acts.clear();
        return 1;
    }

    public int kind(int one) {
        return man(one) ? now.kind[one] : BAD;
    }

    public int as(int one, int kind) {
        if (!man(one) || !in(kind, 0, 5)) return BAD;
        return TYPES[kind].isInstance(manOf(now.kind[one], one, 0, 0, null)) ? ok(one) : finding(3);
    }

    public int ask(int one, int what) {
        if (!man(one) || !in(what, 0, 1)) return BAD;
        trace = new ArrayList<>();
        Man m = manOf(now.kind[one], one, now.pips(one), now.cube, trace);
        return what == 0 ? m.size() : m.mark();
    }

    public int trace(int i) {
        return in(i, 0, Math.min(trace.size(), 16) - 1) ? trace.get(i) : NONE;
    }

    public int count(int what) {
        int off = 0, bar = 0, there = 0;
        for (int m = 0; now != null && m < now.men(); m++) {
            off += now.at[m] == OFF ? 1 : 0;
            bar += now.at[m] == BAR ? 1 : 0;
        }
        for (int[] row : rows) {
            there += row != null ? 1 : 0;
        }
        switch (what) {
            case 0: return there;
            case 1: return now == null ? 0 : now.men();
            case 2: return now == null ? 0 : now.turn;
            case 3: return off;
            case 4: return bar;
            case 5: return now == null ? 0 : now.points;
            case 6: return acts.size();
            case 7: return tape.length();
            default: return BAD;
        }
    }

    public int status() {
        return latestFinding;
    }
}
