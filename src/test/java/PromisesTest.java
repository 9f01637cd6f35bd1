/** Each promise of the document by ordinary inputs, the edges that it names, and wrong inputs; answers reckoned by hand. */
public final class PromisesTest {
    private static final int NONE = -1000000, BAD = -1000001, STATE = -1000002, FULL = -1000003;
    private static final int NULL = -1000011, PLACE = -1000012, KIND = -1000013, SIZE = -1000014, STORE = -1000015;
    private static final int LOWEST = Integer.MIN_VALUE, HIGHEST = Integer.MAX_VALUE;
    private static final String BOTH = "t8,3;c0,1;r0,1;o0,4;p1,6;b1,6;c1,3;";
    private static final String LAST = "t6,2;c0,5;c0,4;c1,0;";

    private static int wrong = 0;
    private static int promise = 0;

    public static void main(String[] args) {
        aNewObject();
        rows();
        copies();
        theTape();
        faults();
        tables();
        undoing();
        playing();
        moving();
        doubling();
        laying();
        standing();
        going();
        hitting();
        best();
        racing();
        chances();
        whatWas();
        games();
        images();
        asking();
        counting();
        statuses();
        System.out.println(wrong == 0 ? "all promises hold" : wrong + " answers are not as due");
        if (wrong != 0) {
            System.exit(1);
        }
    }

    private static void due(String call, long got, long want) {
        if (got != want) {
            wrong++;
            System.out.println("promise " + promise + ": " + call + " answered " + got + ", due is " + want);
        }
    }

    private static int tell(TableFirms x, String text) {
        for (int i = 0; i < text.length(); i++) {
            x.feed(text.charAt(i));
        }
        return x.table();
    }

    private static TableFirms told(String text) {
        TableFirms x = new TableFirms();
        int men = tell(x, text);
        if (men < 1) {
            due("table() of " + text, men, 1);
        }
        return x;
    }

    private static void fill(TableFirms x, int row, int lane, int... items) {
        x.row(row, lane, items.length);
        for (int i = 0; i < items.length; i++) {
            x.set(row, i, items[i]);
        }
    }

    private static int[] traceOf(TableFirms x) {
        int[] numbers = new int[17];
        int n = 0;
        while (n < 17 && x.trace(n) != NONE) {
            numbers[n] = x.trace(n);
            n++;
        }
        return java.util.Arrays.copyOf(numbers, n);
    }

    private static void aNewObject() {
        promise = 1;
        TableFirms x = new TableFirms();
        for (int what = 0; what <= 7; what++) {
            due("count(" + what + ")", x.count(what), 0);
        }
        for (int row = 0; row <= 7; row++) {
            due("drop(" + row + ")", x.drop(row), NULL);
        }
        x = new TableFirms();
        due("status()", x.status(), 0);
        due("fault()", x.fault(), 0);
        due("stand(0)", x.stand(0), STATE);
        due("stand(9)", x.stand(9), STATE);
        due("trace(0)", x.trace(0), NONE);
        due("restore(0)", x.restore(0), STATE);
        due("restore(1)", x.restore(1), STATE);
    }

    private static void rows() {
        promise = 2;
        TableFirms x = new TableFirms();
        due("row(0, 0, 0)", x.row(0, 0, 0), 0);
        due("row(7, 2, 40)", x.row(7, 2, 40), 40);
        due("row(8, 0, 0)", x.row(8, 0, 0), BAD);
        due("row(-1, 0, 0)", x.row(-1, 0, 0), BAD);
        due("row(0, 3, 0)", x.row(0, 3, 0), BAD);
        due("row(0, -1, 0)", x.row(0, -1, 0), BAD);
        due("row(0, 0, 41)", x.row(0, 0, 41), BAD);
        due("row(8, 0, -1)", x.row(8, 0, -1), BAD);
        due("row(7, 0, -1)", x.row(7, 0, -1), SIZE);
        due("row(7, 0, LOWEST)", x.row(7, 0, LOWEST), SIZE);
        due("count(0)", x.count(0), 2);
        due("drop(7) of what stayed", x.drop(7), 40);
        x = told("t4,1;c1,0;c1,0;");
        fill(x, 0, 0, 3, 3);
        due("row(0, 1, 2)", x.row(0, 1, 2), 2);
        due("cast(0, 0), where items are 0 anew", x.cast(0, 0), 126);

        promise = 3;
        due("row(1, 0, 3)", x.row(1, 0, 3), 3);
        due("set(1, 0, 127)", x.set(1, 0, 127), 127);
        due("set(1, 0, 128)", x.set(1, 0, 128), -128);
        due("set(1, 0, 256)", x.set(1, 0, 256), 0);
        due("set(1, 2, -129)", x.set(1, 2, -129), 127);
        x.row(2, 1, 1);
        due("set(2, 0, 32768)", x.set(2, 0, 32768), -32768);
        due("set(2, 0, 65537)", x.set(2, 0, 65537), 1);
        x.row(3, 2, 1);
        due("set(3, 0, LOWEST)", x.set(3, 0, LOWEST), LOWEST);
        due("set(3, 0, BAD)", x.set(3, 0, BAD), BAD);
        due("status()", x.status(), 0);
        due("set(1, 3, 0)", x.set(1, 3, 0), PLACE);
        due("set(1, -1, 0)", x.set(1, -1, 0), PLACE);
        due("set(1, HIGHEST, 0)", x.set(1, HIGHEST, 0), PLACE);
        due("set(1, LOWEST, 0)", x.set(1, LOWEST, 0), PLACE);
        due("set(4, 0, 0)", x.set(4, 0, 0), NULL);
        due("set(4, -1, 0)", x.set(4, -1, 0), NULL);
        due("set(8, 0, 0)", x.set(8, 0, 0), BAD);
        due("set(-1, 0, 0)", x.set(-1, 0, 0), BAD);

        promise = 5;
        due("drop(1)", x.drop(1), 3);
        due("drop(1) again", x.drop(1), NULL);
        due("set(1, 0, 0)", x.set(1, 0, 0), NULL);
        due("drop(8)", x.drop(8), BAD);
        due("drop(-1)", x.drop(-1), BAD);
    }

    /** FIRM 0 has nobody, so cast() tells by 126 that a row is as the men stand: 1, 2, 3. */
    private static void copies() {
        promise = 4;
        TableFirms x = told("t12,4;c1,1;c1,2;c1,3;");
        fill(x, 0, 0, 1, 2, 3, 9, 9);
        due("copy(0, 0, 0, 2, 3)", x.copy(0, 0, 0, 2, 3), 3);
        due("cast(0, 2)", x.cast(0, 2), 126);
        due("cast(0, 0)", x.cast(0, 0), 0);
        due("copy(0, 2, 0, 1, 3)", x.copy(0, 2, 0, 1, 3), 3);
        due("cast(0, 1)", x.cast(0, 1), 126);
        fill(x, 1, 0, 0, 0, 0, 0);
        due("copy(0, 1, 1, 1, 3)", x.copy(0, 1, 1, 1, 3), 3);
        due("cast(1, 1)", x.cast(1, 1), 126);
        due("cast(0, 1), where a stays", x.cast(0, 1), 126);
        due("copy(0, 5, 1, 4, 0)", x.copy(0, 5, 1, 4, 0), 0);
        due("copy(0, 6, 1, 0, 0)", x.copy(0, 6, 1, 0, 0), PLACE);
        due("copy(0, 0, 1, 5, 0)", x.copy(0, 0, 1, 5, 0), PLACE);
        due("copy(0, 0, 1, 0, 5)", x.copy(0, 0, 1, 0, 5), PLACE);
        due("copy(1, 0, 0, 0, 5)", x.copy(1, 0, 0, 0, 5), PLACE);
        due("copy(0, 3, 1, 0, 3)", x.copy(0, 3, 1, 0, 3), PLACE);
        due("copy(0, 0, 1, 2, 3)", x.copy(0, 0, 1, 2, 3), PLACE);
        due("copy(0, -1, 1, 0, 1)", x.copy(0, -1, 1, 0, 1), PLACE);
        due("copy(0, 0, 1, -1, 1)", x.copy(0, 0, 1, -1, 1), PLACE);
        due("copy(0, 0, 1, 0, -1)", x.copy(0, 0, 1, 0, -1), PLACE);
        due("copy(0, 1, 1, 1, HIGHEST)", x.copy(0, 1, 1, 1, HIGHEST), PLACE);
        due("copy(0, HIGHEST, 1, 0, 1)", x.copy(0, HIGHEST, 1, 0, 1), PLACE);
        due("copy(0, 0, 1, HIGHEST, HIGHEST)", x.copy(0, 0, 1, HIGHEST, HIGHEST), PLACE);
        x.row(2, 1, 5);
        due("copy(0, 0, 2, 0, 1)", x.copy(0, 0, 2, 0, 1), STORE);
        due("copy(0, -1, 2, 0, 1)", x.copy(0, -1, 2, 0, 1), STORE);
        due("copy(0, 0, 3, 0, 1)", x.copy(0, 0, 3, 0, 1), NULL);
        due("copy(3, -1, 2, 0, 1)", x.copy(3, -1, 2, 0, 1), NULL);
        due("copy(8, 0, 3, 0, 1)", x.copy(8, 0, 3, 0, 1), BAD);
        due("copy(3, 0, -1, 0, 1)", x.copy(3, 0, -1, 0, 1), BAD);
        due("cast(1, 1), where all is as it was", x.cast(1, 1), 126);
    }

    private static void theTape() {
        promise = 6;
        TableFirms x = new TableFirms();
        due("feed(-1)", x.feed(-1), BAD);
        due("feed(256)", x.feed(256), BAD);
        for (int n = 1; n <= 90; n++) {
            due("feed(), " + n, x.feed(n % 2 == 0 ? 0 : 255), n);
        }
        due("feed(99) on a full tape", x.feed(99), FULL);
        due("feed(256) on a full tape", x.feed(256), BAD);
        due("count(7)", x.count(7), 90);
        due("table()", x.table(), -1000100);
        due("count(7) behind table()", x.count(7), 0);
        due("feed(99)", x.feed(99), 1);
    }

    private static void fault(String text, int place, int number) {
        TableFirms x = told("t5,2;c0,1;r1,4;");
        x.play(1);
        promise = 7;
        due("table() of " + text, tell(x, text), -1000100 - place);
        due("count(1) behind the fault of " + text, x.count(1), 2);
        due("count(2) behind the fault of " + text, x.count(2), 1);
        due("count(5) behind the fault of " + text, x.count(5), 5);
        due("count(6) behind the fault of " + text, x.count(6), 1);
        due("count(7) behind the fault of " + text, x.count(7), 0);
        promise = 8;
        due("fault() of " + text, x.fault(), number);
    }

    private static void faults() {
        fault("", 0, 1);
        fault("t", 1, 1);
        fault("T4,1;c0,0;", 0, 1);
        fault("c0,0;", 0, 1);
        fault("t3,1;c0,0;", 1, 2);
        fault("t13,1;c0,0;", 1, 2);
        fault("t99,9;c0,0;", 1, 2);
        fault("t004,1;c0,0;", 1, 1);
        fault("t0004,1;c0,0;", 1, 1);
        fault("t00000000000000000004,1;c0,0;", 1, 1);
        fault("t,1;c0,0;", 1, 1);
        fault("t4;1;c0,0;", 2, 1);
        fault("t4,0;c0,0;", 3, 2);
        fault("t4,5;c0,0;", 3, 2);
        fault("t12,04,", 6, 1);
        fault("t4,1;", 5, 1);
        fault("t4,1;t", 5, 1);
        fault("t4,1;d0,0;", 5, 1);
        fault("t4,1;C0,0;", 5, 1);
        fault("t4,1;cc", 6, 1);
        fault("t4,1;c2,0;", 6, 2);
        fault("t4,1;c000,0;", 6, 1);
        fault("t4,1;c0;0;", 7, 1);
        fault("t4,1;c0,5;", 8, 2);
        fault("t12,4;c0,13;", 9, 2);
        fault("t4,1;c0,004;", 8, 1);
        fault("t4,1;c0,0", 9, 1);
        fault("t4,1;c0,0,", 9, 1);
        fault("t4,1;c0,0; ", 10, 1);
        fault("t4,1;c0,0;\n", 10, 1);
        fault("t4,1;c0,0;5", 10, 1);
        fault("t\u00b2,1;c0,0;", 1, 1);
        String eight = "t4,1;" + "c0,0;".repeat(8);
        fault(eight + "c", 45, 3);
        fault(eight + "b0,9;", 45, 3);
        fault(eight + "x", 45, 1);
        fault(eight + "t4,1;", 45, 1);
        fault(eight + ";", 45, 1);
        fault(eight + "0", 45, 1);
        promise = 8;
        TableFirms x = new TableFirms();
        due("fault() before one", x.fault(), 0);
        tell(x, "t3,1;");
        tell(x, "t4,1;c0,0;");
        due("fault() behind a table without one", x.fault(), 2);
    }

    private static void tables() {
        promise = 7;
        TableFirms x = new TableFirms();
        due("table()", tell(x, "t04,01;c00,00;p01,04;"), 2);
        due("stand(4)", x.stand(4), 4);
        due("stand(5)", x.stand(5), 1);
        due("man(1, 0)", x.man(1, 0), 1);
        due("man(1, 1)", x.man(1, 1), 4);
        due("count(4)", x.count(4), 1);
        due("table() of eight", tell(x, "t12,4;c0,0;r1,1;o0,2;p1,3;b0,10;c1,11;c0,12;c1,12;"), 8);
        for (int one = 0; one < 5; one++) {
            due("kind(" + one + ")", x.kind(one), one + 1);
        }
        x.play(1);
        x.twice();
        x.image(0);
        x.row(5, 1, 6);
        due("table() anew", tell(x, "t4,2;c1,0;"), 1);
        due("count(0), where rows stay", x.count(0), 1);
        due("count(2)", x.count(2), 0);
        due("count(4)", x.count(4), 0);
        due("count(6)", x.count(6), 0);
        due("undo()", x.undo(), STATE);
        due("stand(0)", x.stand(0), 0);
        due("stand(1)", x.stand(1), 1);
        due("stand(2)", x.stand(2), NONE);
        due("pips(0, 0)", x.pips(0, 0), 0);
        due("pips(1, 0)", x.pips(1, 0), 1);
        due("restore(0), where images stay", x.restore(0), 1);
        due("count(1)", x.count(1), 8);
        due("table() of those at home", tell(x, "t6,2;c0,5;c0,4;"), 2);
        due("may(6), behind tables of men who were not", x.may(6), 3);
    }

    private static void undoing() {
        promise = 9;
        TableFirms x = told(BOTH);
        due("undo() of nothing", x.undo(), STATE);
        x.play(2);
        x.twice();
        x.lay(1, 0);
        x.move(5, 6);
        due("count(6)", x.count(6), 4);
        due("undo() of move", x.undo(), 3);
        due("man(5, 1)", x.man(5, 1), 8);
        due("stand(0)", x.stand(0), 1);
        due("count(2)", x.count(2), 1);
        due("undo() of lay", x.undo(), 2);
        due("man(1, 1)", x.man(1, 1), 1);
        due("undo() of twice", x.undo(), 1);
        due("stand(1)", x.stand(1), 1);
        due("stand(2)", x.stand(2), NONE);
        due("undo() of play", x.undo(), 0);
        due("man(0, 1)", x.man(0, 1), 1);
        due("man(5, 1), who was hit", x.man(5, 1), 3);
        due("stand(0)", x.stand(0), 0);
        due("count(2)", x.count(2), 0);
        due("pips(1, 0)", x.pips(1, 0), 18);
        due("on(1, 3)", x.on(1, 3), 32);
        due("may(2)", x.may(2), 7);
        due("undo() of nothing", x.undo(), STATE);

        x = told("t4,1;p0,0;");
        for (int turn = 1; turn <= 26; turn++) {
            due("play(1) that moves nobody", x.play(1), NONE);
            due("count(6)", x.count(6), Math.min(turn, 24));
        }
        for (int left = 23; left >= 0; left--) {
            due("undo()", x.undo(), left);
            due("count(2)", x.count(2), 2 + left);
        }
        due("undo() of what is forgotten", x.undo(), STATE);
        due("count(2)", x.count(2), 2);

        x = told(LAST);
        x.play(6);
        x.play(6);
        due("stand(3)", x.stand(3), 1);
        due("undo() behind the end", x.undo(), 1);
        due("stand(3)", x.stand(3), NONE);
        due("play(1) then", x.play(1), 2);
    }

    private static void playing() {
        promise = 10;
        TableFirms x = new TableFirms();
        due("play(0) without a table", x.play(0), STATE);
        x = told(BOTH);
        due("play(0)", x.play(0), BAD);
        due("play(7)", x.play(7), BAD);
        due("play(2): most pips, of several the least", x.play(2), 0);
        due("man(0, 1)", x.man(0, 1), 3);
        due("man(5, 1), who was hit", x.man(5, 1), 8);
        due("stand(0)", x.stand(0), 1);
        due("count(2)", x.count(2), 1);
        due("play(5) from the bar", x.play(5), 5);
        due("man(0, 1), who was hit", x.man(0, 1), 8);
        due("count(4)", x.count(4), 1);
        x = told("t6,2;c0,4;c0,1;c1,5;");
        due("play(1): who has most pips", x.play(1), 1);
        x = told("t6,2;c0,0;c1,1;c1,1;");
        due("play(1): none can", x.play(1), NONE);
        due("count(2)", x.count(2), 1);
        due("stand(0)", x.stand(0), 1);
        due("play(1)", x.play(1), 1);
        due("man(1, 1): to the other end", x.man(1, 1), 0);
        due("man(0, 1), who was alone", x.man(0, 1), 6);
        x = told(LAST);
        due("play(2)", x.play(2), 1);
        due("play(1)", x.play(1), 2);
        due("play(1), won", x.play(1), STATE);
        due("play(7), won", x.play(7), BAD);
        // only an object used beyond its 512 calls gets so far
        x = told("t4,1;p0,0;");
        for (int turn = 0; turn < 999; turn++) {
            x.play(1);
        }
        due("play(1) at 999", x.play(1), FULL);
        promise = 11;
        tell(x, "t4,1;c0,4;c1,4;");
        for (int turn = 0; turn < 999; turn++) {
            x.play(5);
        }
        due("count(2)", x.count(2), 999);
        due("move(1, 1) at 999", x.move(1, 1), FULL);
        due("move(1, 6) at 999", x.move(1, 6), STATE);
    }

    private static void moving() {
        promise = 11;
        TableFirms x = new TableFirms();
        due("move(0, 1) without a table", x.move(0, 1), BAD);
        x = told(BOTH);
        due("move(6, 1)", x.move(6, 1), BAD);
        due("move(-1, 1)", x.move(-1, 1), BAD);
        due("move(0, 0)", x.move(0, 0), BAD);
        due("move(3, 7)", x.move(3, 7), BAD);
        due("move(3, 1), the other firm's", x.move(3, 1), STATE);
        due("move(1, 4), blocked", x.move(1, 4), STATE);
        due("move(1, 1)", x.move(1, 1), 3);
        due("man(5, 1), who was hit", x.man(5, 1), 8);
        due("move(0, 1), the other firm's now", x.move(0, 1), STATE);
        due("move(3, 1), one is on the bar", x.move(3, 1), STATE);
        due("count(2)", x.count(2), 1);
        due("move(5, 2)", x.move(5, 2), 6);
        due("stand(0)", x.stand(0), 0);
        x = told(LAST);
        due("move(1, 6)", x.move(1, 6), 6);
        due("man(1, 1)", x.man(1, 1), NONE);
        due("move(1, 1), off", x.move(1, 1), STATE);
        due("move(2, 1)", x.move(2, 1), 6);
        due("move(0, 1), won", x.move(0, 1), STATE);
        due("count(2)", x.count(2), 2);
    }

    private static void doubling() {
        promise = 12;
        TableFirms x = new TableFirms();
        due("twice() without a table", x.twice(), STATE);
        x = told("t4,1;p0,0;");
        due("twice()", x.twice(), 2);
        due("stand(2)", x.stand(2), 1);
        due("twice(), the other one's", x.twice(), STATE);
        due("count(2)", x.count(2), 0);
        due("stand(0)", x.stand(0), 0);
        for (int cube = 4; cube <= 64; cube = 2 * cube) {
            x.play(1);
            due("twice()", x.twice(), cube);
            due("twice() at once", x.twice(), STATE);
        }
        due("stand(2)", x.stand(2), 0);
        x.play(1);
        due("twice() at 64", x.twice(), STATE);
        due("stand(1)", x.stand(1), 64);
        x = told("t4,1;c0,3;c1,3;");
        x.play(1);
        due("stand(3)", x.stand(3), 0);
        due("twice(), won", x.twice(), STATE);
    }

    private static void laying() {
        promise = 13;
        TableFirms x = new TableFirms();
        due("lay(0, 0) without a table", x.lay(0, 0), BAD);
        x = told(LAST);
        due("lay(3, 0)", x.lay(3, 0), BAD);
        due("lay(-1, 0)", x.lay(-1, 0), BAD);
        due("lay(0, 7)", x.lay(0, 7), BAD);
        due("lay(0, -1)", x.lay(0, -1), BAD);
        due("lay(0, 5), where he is", x.lay(0, 5), STATE);
        due("lay(0, 0), where another firm's is", x.lay(0, 0), 5);
        due("on(0, 0)", x.on(0, 0), 1);
        due("on(1, 0)", x.on(1, 0), 4);
        due("count(2)", x.count(2), 0);
        due("lay(0, 6)", x.lay(0, 6), 0);
        due("lay(0, 6), where he is", x.lay(0, 6), STATE);
        due("count(4)", x.count(4), 1);
        due("lay(0, 5)", x.lay(0, 5), 6);
        x.play(6);
        x.play(6);
        due("stand(3)", x.stand(3), 1);
        due("lay(2, 3), off and won", x.lay(2, 3), 7);
        due("stand(3)", x.stand(3), NONE);
        due("count(3)", x.count(3), 1);
        due("count(6)", x.count(6), 6);
    }

    private static void standing() {
        promise = 14;
        TableFirms x = told("t6,2;c0,4;c0,3;c0,6;c1,1;c1,2;c1,6;");
        int[][] men = {{0, 4, 2, 1}, {0, 3, 3, 0}, {0, 6, 7, 0}, {1, 1, 2, 1}, {1, 2, 3, 0}, {1, 6, 7, 0}};
        for (int one = 0; one < men.length; one++) {
            for (int what = 0; what < 4; what++) {
                due("man(" + one + ", " + what + ")", x.man(one, what), men[one][what]);
            }
        }
        due("man(6, 0)", x.man(6, 0), BAD);
        due("man(-1, 0)", x.man(-1, 0), BAD);
        due("man(0, 4)", x.man(0, 4), BAD);
        due("man(0, -1)", x.man(0, -1), BAD);
        due("man(0, 0) without a table", new TableFirms().man(0, 0), BAD);
        TableFirms y = told(LAST);
        y.play(6);
        due("man(1, 0), off", y.man(1, 0), 0);
        due("man(1, 1), off", y.man(1, 1), NONE);
        due("man(1, 2), off", y.man(1, 2), 0);
        due("man(1, 3), off", y.man(1, 3), 1);

        promise = 15;
        due("on(0, 4)", x.on(0, 4), 1);
        due("on(1, 4)", x.on(1, 4), 0);
        due("on(0, 6)", x.on(0, 6), 4);
        due("on(1, 6)", x.on(1, 6), 32);
        due("on(0, 7)", x.on(0, 7), 0);
        due("on(0, 7), one off", y.on(0, 7), 2);
        due("on(1, 7), none off", y.on(1, 7), 0);
        due("on(0, 8)", x.on(0, 8), BAD);
        due("on(0, -1)", x.on(0, -1), BAD);
        due("on(2, 0)", x.on(2, 0), BAD);
        due("on(-1, 0)", x.on(-1, 0), BAD);
        due("on(0, 0) without a table", new TableFirms().on(0, 0), BAD);

        promise = 16;
        int[] stand = {1, 1, NONE, NONE, 6, 2};
        for (int what = 0; what < 6; what++) {
            due("stand(" + what + ")", y.stand(what), stand[what]);
        }
        due("stand(6)", y.stand(6), BAD);
        due("stand(-1)", y.stand(-1), BAD);
        due("stand(6) without a table", new TableFirms().stand(6), STATE);
        y.play(1);
        due("stand(3)", y.stand(3), 1);
        due("stand(0)", y.stand(0), 0);

        promise = 21;
        due("pips(0, 0)", x.pips(0, 0), 12);
        due("pips(1, 0)", x.pips(1, 0), 12);
        due("pips(0, 1)", x.pips(0, 1), 0);
        due("pips(0, 0), one off", y.pips(0, 0), 1);
        due("pips(0, 1)", y.pips(0, 1), -1);
        due("pips(1, 1)", y.pips(1, 1), 1);
        due("pips(2, 0)", x.pips(2, 0), BAD);
        due("pips(0, 2)", x.pips(0, 2), BAD);
        due("pips(2, 0) without a table", new TableFirms().pips(2, 0), STATE);

        promise = 24;
        x = told("t4,1;c0,1;r0,1;o1,1;c1,2;c1,2;c0,3;c1,4;c1,4;");
        due("safe(0)", x.safe(0), 3);
        due("safe(1), not those on the bar", x.safe(1), 24);
        due("safe(2)", x.safe(2), BAD);
        due("safe(-1)", x.safe(-1), BAD);
        due("safe(2) without a table", new TableFirms().safe(2), STATE);
    }

    private static void going() {
        promise = 17;
        TableFirms x = told("t6,2;c0,0;c1,3;c1,3;p1,5;b1,1;");
        due("may(1)", x.may(1), 1);
        due("may(3), blocked", x.may(3), 0);
        due("may(6), not home", x.may(6), 0);
        due("may(0)", x.may(0), BAD);
        due("may(7)", x.may(7), BAD);
        due("may(7) without a table", new TableFirms().may(7), STATE);

        promise = 18;
        due("whither(0, 1)", x.whither(0, 1), 1);
        due("whither(0, 3), blocked", x.whither(0, 3), NONE);
        due("whither(0, 5), one is there", x.whither(0, 5), 5);
        due("whither(1, 1), down", x.whither(1, 1), 2);
        due("whither(3, 2), a partner where others are", x.whither(3, 2), 3);
        due("whither(3, 1), a partner alone", x.whither(3, 1), NONE);
        due("whither(3, 4), a partner to a blot of his", x.whither(3, 4), 1);
        due("whither(4, 1), a blot where just one other is", x.whither(4, 1), 0);
        due("whither(4, 2), not all home", x.whither(4, 2), NONE);
        due("whither(5, 1)", x.whither(5, 1), BAD);
        due("whither(0, 0)", x.whither(0, 0), BAD);
        due("whither(0, 7)", x.whither(0, 7), BAD);
        due("whither(0, 1) without a table", new TableFirms().whither(0, 1), BAD);
        x = told("t12,4;o0,0;r0,0;c1,11;p1,6;b1,6;b1,9;c0,8;p0,2;");
        int[] old = {1, 1, 2, 2, 3, 3};
        for (int d = 1; d <= 6; d++) {
            due("whither(0, " + d + "), an old one", x.whither(0, d), old[d - 1]);
            due("whither(1, " + d + "), a runner", x.whither(1, d), d == 5 ? NONE : d + 1);
        }
        due("whither(3, 1), a partner who leaves another", x.whither(3, 1), 5);
        due("whither(5, 1), a blot with company, and one other", x.whither(5, 1), 8);
        due("whither(5, 2), a blot alone", x.whither(5, 2), NONE);
        due("whither(7, 6), a partner, just one other is no company", told("t12,4;c1,8;p0,2;").whither(1, 6), NONE);
        x = told("t6,2;p0,6;c0,6;c0,1;c1,5;c1,4;c1,4;c1,6;");
        due("whither(0, 1), a partner from the bar", x.whither(0, 1), 0);
        due("whither(0, 5), two are there", x.whither(0, 5), NONE);
        due("whither(0, 6)", x.whither(0, 6), 5);
        due("whither(1, 1), two on the bar", x.whither(1, 1), 0);
        due("whither(2, 1), others are on the bar", x.whither(2, 1), NONE);
        due("whither(6, 1), from the other end", x.whither(6, 1), 5);
        due("whither(6, 6)", x.whither(6, 6), 0);
        x = told("t6,2;p0,5;c1,5;");
        due("whither(0, 1), a partner off", x.whither(0, 1), 6);
        due("whither(1, 6), not home", x.whither(1, 6), NONE);
        x = told("t4,4;c0,4;c0,0;");
        due("whither(0, 5), the bar is not home", x.whither(0, 5), NONE);
        due("whither(0, 4)", x.whither(0, 4), 3);
        x = told("t4,4;c0,3;c0,0;");
        due("whither(1, 4)", x.whither(1, 4), 4);
        due("whither(0, 6)", x.whither(0, 6), 4);

        promise = 20;
        x = told("t6,2;p0,6;c0,1;c1,4;c1,4;r1,2;");
        due("enter(0)", x.enter(0), 126 - 32);
        due("enter(1), none is there", x.enter(1), NONE);
        x.lay(4, 6);
        due("enter(1), a runner", x.enter(1), 62);
        due("enter(2)", x.enter(2), BAD);
        due("enter(-1)", x.enter(-1), BAD);
        due("enter(2) without a table", new TableFirms().enter(2), STATE);
    }

    private static void hitting() {
        promise = 19;
        TableFirms x = told("t8,3;c0,1;r0,1;o0,4;p1,6;b1,6;c1,3;c0,8;");
        int[] shots = {0, 0, 4, 0, 0, 16};
        for (int one = 0; one < shots.length; one++) {
            due("shots(" + one + ")", x.shots(one), shots[one]);
        }
        due("shots(6), on the bar", x.shots(6), STATE);
        due("shots(7)", x.shots(7), BAD);
        due("shots(-1)", x.shots(-1), BAD);
        due("shots(0) without a table", new TableFirms().shots(0), BAD);
        x.lay(6, 0);
        due("shots(5): a clerk by 2 and 3, a runner by 1", x.shots(5), 14);
        due("shots(2): 2 alone, for two stand there", x.shots(2), 4);
        due("shots(6)", x.shots(6), 8 + 64);
        x = told(LAST);
        x.play(6);
        due("shots(1), off", x.shots(1), STATE);
    }

    private static void best() {
        promise = 22;
        TableFirms x = told("t6,2;c0,0;r0,1;c1,3;");
        due("best(2, 0, 0)", x.best(2, 0, 0), 1);
        due("best(2, 0, 1)", x.best(2, 0, 1), -4);
        due("best(3, 0, 0), a hit", x.best(3, 0, 0), 0);
        due("best(3, 0, 1)", x.best(3, 0, 1), -1);
        due("best(6, 0, 0), none can", x.best(6, 0, 0), NONE);
        due("best(6, 0, 1), as all stand", x.best(6, 0, 1), -7);
        due("best(0, 0, 0)", x.best(0, 0, 0), BAD);
        due("best(7, 0, 0)", x.best(7, 0, 0), BAD);
        due("best(1, 3, 0)", x.best(1, 3, 0), BAD);
        due("best(1, -1, 0)", x.best(1, -1, 0), BAD);
        due("best(1, 0, 2)", x.best(1, 0, 2), BAD);
        due("best(0, 0, 0) without a table", new TableFirms().best(0, 0, 0), STATE);
        x = told("t6,2;c0,0;c0,1;c1,5;");
        due("best(1, 0, 0), of several the least", x.best(1, 0, 0), 0);
        x = told("t4,1;c0,0;c1,3;");
        due("best(1, 1, 0)", x.best(1, 1, 0), 0);
        due("best(1, 1, 1)", x.best(1, 1, 1), -2);
        x = told("t4,1;p0,0;");
        due("best(1, 2, 1), nobody goes", x.best(1, 2, 1), -4 * 36);
        due("count(6), nothing changes", x.count(6), 0);
        x = told("t4,2;c0,3;c1,0;");
        due("best(1, 1, 1): off, then the other one's off", x.best(1, 1, 1), 0);
        // off; by each of six throws the other one's off; by each of six nobody goes
        due("best(1, 2, 1), won on the way", x.best(1, 2, 1), 0);
        x.play(1);
        due("best(1, 0, 0), won", x.best(1, 0, 0), STATE);
        due("best(7, 0, 0), won", x.best(7, 0, 0), BAD);
        // two turns ahead, with a hit and a hit back: each part reckoned on paper
        x = told("t4,4;c0,3;c1,3;");
        due("best(1, 2, 1)", x.best(1, 2, 1), depthTwo());
    }

    /**
     * t4,4;c0,3;c1,3; by 1: the clerk of FIRM 0 is off, and the other, of 4 pips, goes d.
     * Behind that none of FIRM 0 can go, so its worth is what he has yet, six times.
     */
    private static int depthTwo() {
        int sum = 0;
        for (int d = 1; d <= 6; d++) {
            sum += -6 * Math.max(0, 4 - d);
        }
        return -sum;
    }

    private static void racing() {
        promise = 23;
        TableFirms x = told(LAST);
        due("race(0)", x.race(0), 2);
        due("race(1)", x.race(1), 1);
        due("race(2)", x.race(2), BAD);
        due("race(-1)", x.race(-1), BAD);
        due("race(2) without a table", new TableFirms().race(2), STATE);
        x.play(6);
        x.play(6);
        due("race(1), won", x.race(1), 0);
        x = told("t12,4;o0,0;");
        due("race(0), an old one", x.race(0), 4);
        due("race(1), it has no men", x.race(1), STATE);
        due("race(0), too far for six and not home", told("t12,4;c0,0;").race(0), NONE);
        due("race(0), a partner alone", told("t6,2;p0,0;").race(0), NONE);
        due("race(0), the other one is not there", told("t12,4;o0,0;c1,3;c1,3;").race(0), 4);
        due("race(0), a blot has nobody to hit", told("t12,4;b0,1;c1,7;").race(0), NONE);
        due("race(1), a blot has nobody to hit", told("t12,4;c0,3;b1,9;").race(1), NONE);
        due("race(1), a clerk on that way", told("t12,4;c0,3;c1,9;").race(1), 2);
        due("race(0), from the bar", told("t12,4;o0,12;").race(0), 5);
    }

    private static void chance(TableFirms x, int n, long above, long below) {
        due("chance(0, " + n + ", 0)", x.chance(0, n, 0), above);
        due("chance(0, " + n + ", 1)", x.chance(0, n, 1), below);
    }

    private static void chances() {
        promise = 28;
        TableFirms x = told("t6,2;c0,4;");
        chance(x, 0, 0, 1);
        chance(x, 1, 5, 6);
        chance(x, 2, 1, 1);
        chance(x, 3, 1, 1);
        due("chance(1, 1, 0), it has no men", x.chance(1, 1, 0), STATE);
        due("chance(2, 1, 0)", x.chance(2, 1, 0), BAD);
        due("chance(0, 4, 0)", x.chance(0, 4, 0), BAD);
        due("chance(0, -1, 0)", x.chance(0, -1, 0), BAD);
        due("chance(0, 1, 2)", x.chance(0, 1, 2), BAD);
        due("chance(1, 4, 0), it has no men", x.chance(1, 4, 0), BAD);
        due("chance(2, 1, 0) without a table", new TableFirms().chance(2, 1, 0), STATE);
        x = told(LAST);
        chance(x, 1, 0, 1);
        chance(x, 2, 5, 6);
        chance(x, 3, 1, 1);
        // the other firm's street at 4 is not there: (3 * 6 + 4 + 5 + 6) of 36
        x = told("t6,4;c0,2;c1,4;c1,4;");
        chance(x, 2, 11, 12);
        // only by 1 he comes home; by each other throw none can go, and a turn is gone
        x = told("t4,1;c0,2;");
        chance(x, 1, 0, 1);
        chance(x, 2, 1, 6);
        chance(x, 3, 11, 36);
        x = told("t12,4;c0,3;b1,9;");
        due("chance(1, 2, 0), a blot has nobody to hit", x.chance(1, 2, 0), 0);
        due("chance(1, 2, 1)", x.chance(1, 2, 1), 1);
        x.lay(0, 6);
        chance(x, 1, 0, 1);
        x = told("t4,1;c0,3;c1,3;");
        x.play(1);
        chance(x, 0, 1, 1);
        chance(x, 3, 1, 1);
    }

    private static void whatWas() {
        TableFirms x = told(BOTH);
        fill(x, 0, 0, 77, 3, 1, 4, 6, 6, 8);
        fill(x, 1, 1, 1, 3, 4, 6, 6, 8);
        fill(x, 2, 2, 1, 1, 4, 6, 6, 3);
        promise = 25;
        due("cast(0, 1)", x.cast(0, 1), 4);
        due("cast(1, 0), not by rule", x.cast(1, 0), 0);
        due("cast(2, 0), as all stand now", x.cast(2, 0), 0);
        due("cast(0, 0)", x.cast(0, 0), 0);
        due("cast(0, 2)", x.cast(0, 2), PLACE);
        due("cast(0, -1)", x.cast(0, -1), PLACE);
        due("cast(0, HIGHEST)", x.cast(0, HIGHEST), PLACE);
        due("cast(3, -1)", x.cast(3, -1), NULL);
        due("cast(8, 0)", x.cast(8, 0), BAD);
        due("cast(-1, 0)", x.cast(-1, 0), BAD);
        due("cast(8, 0) without a table", new TableFirms().cast(8, 0), STATE);
        promise = 26;
        due("played(2, 0, 1)", x.played(2, 0, 1), 1);
        due("played(1, 0, 1)", x.played(1, 0, 1), 0);
        due("played(1, 1, 0)", x.played(1, 1, 0), 2);
        due("played(2, 0, 2)", x.played(2, 0, 2), PLACE);
        due("played(2, 3, 0)", x.played(2, 3, 0), NULL);
        due("played(0, 0, 1)", x.played(0, 0, 1), BAD);
        due("played(7, 3, 0)", x.played(7, 3, 0), BAD);
        due("played(1, 8, 0)", x.played(1, 8, 0), BAD);
        due("played(7, 0, 0) without a table", new TableFirms().played(7, 0, 0), STATE);
        promise = 27;
        due("kinds(0, 2, 0, 1)", x.kinds(0, 2, 0, 1), 2 + 16 + 32);
        due("kinds(0, 1, 0, 1)", x.kinds(0, 1, 0, 1), 4);
        due("kinds(0, 3, 0, 1)", x.kinds(0, 3, 0, 1), 8);
        due("kinds(0, 4, 0, 1)", x.kinds(0, 4, 0, 1), 8);
        due("kinds(0, 5, 0, 1)", x.kinds(0, 5, 0, 1), 0);
        due("kinds(5, 2, 0, 1), who was hit, by any", x.kinds(5, 2, 0, 1), 62);
        due("kinds(0, 2, 0, 2)", x.kinds(0, 2, 0, 2), PLACE);
        due("kinds(0, 2, 3, 0)", x.kinds(0, 2, 3, 0), NULL);
        due("kinds(6, 2, 0, 1)", x.kinds(6, 2, 0, 1), BAD);
        due("kinds(0, 7, 0, 1)", x.kinds(0, 7, 0, 1), BAD);
        due("kinds(0, 2, 8, 1)", x.kinds(0, 2, 8, 1), BAD);
        due("kinds(0, 2, 0, 1) without a table", new TableFirms().kinds(0, 2, 0, 1), BAD);
        due("kind(0), which stays", x.kind(0), 1);

        x = told(LAST);
        fill(x, 0, 0, 5, 99, 0);
        promise = 25;
        due("cast(0, 0), one off", x.cast(0, 0), 124);
        promise = 26;
        due("played(2, 0, 0), one off", x.played(2, 0, 0), 2);
        x.set(0, 1, 6);
        promise = 25;
        due("cast(0, 0), 6 is the bar", x.cast(0, 0), 0);
        x.play(6);
        x.play(6);
        due("cast(0, 0), won", x.cast(0, 0), STATE);
        due("cast(7, 0), won", x.cast(7, 0), STATE);
        due("cast(8, 0), won", x.cast(8, 0), BAD);
        promise = 26;
        due("played(1, 7, 0), won", x.played(1, 7, 0), STATE);
        due("played(0, 7, 0), won", x.played(0, 7, 0), BAD);
        promise = 27;
        due("kinds(0, 1, 7, 0), won", x.kinds(0, 1, 7, 0), STATE);
        due("kinds(3, 1, 7, 0), won", x.kinds(3, 1, 7, 0), BAD);

        x = told("t6,2;p0,0;c1,5;");
        fill(x, 0, 0, 0, 5);
        promise = 25;
        due("cast(0, 0), nobody can go", x.cast(0, 0), 126);
        promise = 26;
        due("played(1, 0, 0), nobody can go", x.played(1, 0, 0), 0);
        promise = 27;
        due("kinds(0, 1, 0, 0)", x.kinds(0, 1, 0, 0), 16 + 32);
        x = told("t6,2;b0,0;c1,5;");
        fill(x, 0, 0, 0, 5);
        promise = 25;
        due("cast(0, 0), but a blot by 5", x.cast(0, 0), 126 - 32);
    }

    private static void games() {
        promise = 29;
        TableFirms x = told("t12,4;c0,0;c1,11;");
        int[] leads = {0, 2, 0, 6, 3};
        for (int n = 0; n < leads.length; n++) {
            due("drawn(" + n + ", 1, 0)", x.drawn(n, 1, 0), leads[n]);
            due("drawn(" + n + ", 1, 1)", x.drawn(n, 1, 1), 0);
        }
        due("drawn(61, 1, 0)", x.drawn(61, 1, 0), BAD);
        due("drawn(-1, 1, 0)", x.drawn(-1, 1, 0), BAD);
        due("drawn(1, 0, 0)", x.drawn(1, 0, 0), BAD);
        due("drawn(1, 1000000, 0)", x.drawn(1, 1000000, 0), BAD);
        due("drawn(1, 1, 2)", x.drawn(1, 1, 2), BAD);
        due("drawn(0, 999999, 0)", x.drawn(0, 999999, 0), 0);
        due("drawn(61, 1, 0) without a table", new TableFirms().drawn(61, 1, 0), STATE);
        due("count(2), nothing changes", x.count(2), 0);
        x.play(1);
        // by 2 it is FIRM 1 that goes first now: 11 less 10
        due("drawn(1, 1, 0)", x.drawn(1, 1, 0), 10 - 11);
        x = told("t6,2;c0,5;c1,0;");
        due("drawn(1, 1, 1)", x.drawn(1, 1, 1), 1);
        due("drawn(60, 1, 1), none when one has won", x.drawn(60, 1, 1), 1);
        due("drawn(60, 1, 0)", x.drawn(60, 1, 0), 1);
        x.play(1);
        due("drawn(9, 5, 1), won", x.drawn(9, 5, 1), 1);
        x = told("t6,2;p0,0;c1,0;c0,0;r1,5;");
        x.lay(2, 6);
        x.lay(3, 0);
        x.play(6);
        due("drawn(1, 1, 1), one of FIRM 1 off", x.drawn(1, 1, 1), 2);
    }

    private static void images() {
        promise = 30;
        TableFirms x = new TableFirms();
        due("image(0) without a table", x.image(0), STATE);
        due("image(2) without a table", x.image(2), BAD);
        due("image(-1)", x.image(-1), BAD);
        promise = 31;
        due("restore(2)", x.restore(2), BAD);
        due("restore(-1)", x.restore(-1), BAD);
        due("restore(0)", x.restore(0), STATE);
        tell(x, BOTH);
        x.play(2);
        x.twice();
        promise = 30;
        due("image(1)", x.image(1), 1);
        due("count(6), which stays", x.count(6), 2);
        promise = 31;
        due("restore(0), none was kept", x.restore(0), STATE);
        x.twice();
        x.play(5);
        x.lay(2, 0);
        due("restore(1)", x.restore(1), 1);
        due("undo()", x.undo(), STATE);
        due("stand(0)", x.stand(0), 1);
        due("stand(1)", x.stand(1), 2);
        due("stand(2)", x.stand(2), 0);
        due("count(2)", x.count(2), 1);
        due("man(5, 1)", x.man(5, 1), 8);
        due("man(2, 1)", x.man(2, 1), 4);
        due("enter(1)", x.enter(1), 126);
        tell(x, "t4,1;b1,0;");
        x.image(0);
        due("restore(1) over another table", x.restore(1), 1);
        due("count(1)", x.count(1), 6);
        due("count(5)", x.count(5), 8);
        due("stand(5)", x.stand(5), 3);
        due("kind(1)", x.kind(1), 2);
        x.play(1);
        due("restore(1) again", x.restore(1), 1);
        due("pips(1, 0)", x.pips(1, 0), 7 + 7 + 9);
        due("restore(0)", x.restore(0), 1);
        due("kind(0)", x.kind(0), 5);
        due("kind(1)", x.kind(1), BAD);
        promise = 30;
        tell(x, "t5,1;c0,0;");
        due("image(0) anew", x.image(0), 1);
        tell(x, "t6,1;c0,0;");
        x.restore(0);
        due("stand(4)", x.stand(4), 5);
    }

    private static void ask(TableFirms x, int one, int what, int answer, int... trace) {
        promise = 34;
        due("ask(" + one + ", " + what + ")", x.ask(one, what), answer);
        promise = 35;
        int[] got = traceOf(x);
        if (!java.util.Arrays.equals(got, trace)) {
            wrong++;
            System.out.println("promise 35: of ask(" + one + ", " + what + ") the trace is " + java.util.Arrays.toString(got));
        }
    }

    private static void asking() {
        TableFirms x = told("t12,4;c0,0;r0,1;o0,2;p1,3;b1,4;");
        promise = 32;
        for (int one = 0; one < 5; one++) {
            due("kind(" + one + ")", x.kind(one), one + 1);
        }
        due("kind(5)", x.kind(5), BAD);
        due("kind(-1)", x.kind(-1), BAD);
        due("kind(0) without a table", new TableFirms().kind(0), BAD);

        promise = 33;
        boolean[][] is = {
            {true, true, false, false, false, false}, {true, true, true, false, false, false},
            {true, true, false, true, false, false}, {true, false, false, false, true, false},
            {true, false, false, false, true, true}};
        for (int one = 0; one < 5; one++) {
            for (int kind = 0; kind < 6; kind++) {
                due("as(" + one + ", " + kind + ")", x.as(one, kind), is[one][kind] ? one : KIND);
                due("status()", x.status(), is[one][kind] ? 0 : 3);
            }
        }
        due("as(0, 6)", x.as(0, 6), BAD);
        due("as(0, -1)", x.as(0, -1), BAD);
        due("as(5, 0)", x.as(5, 0), BAD);
        due("as(-1, 0)", x.as(-1, 0), BAD);

        ask(x, 0, 0, 13, 11, 10, 21, 20);
        ask(x, 0, 1, 1, 21, 20);
        ask(x, 1, 0, -15, 12, 11, 10, 24, 21, 20);
        ask(x, 1, 1, 4, 24, 21, 20);
        ask(x, 2, 0, -987, 11, 10, 22, 21, 20);
        ask(x, 2, 1, -997, 22, 21, 20);
        ask(x, 3, 0, -96, 13, 10);
        ask(x, 3, 1, 99, 23, 20, 13, 10);
        ask(x, 4, 0, -190, 14, 13, 10);
        ask(x, 4, 1, 194, 23, 20, 14, 13, 10);
        promise = 34;
        due("ask(5, 0)", x.ask(5, 0), BAD);
        due("ask(-1, 0)", x.ask(-1, 0), BAD);
        due("ask(0, 2)", x.ask(0, 2), BAD);
        due("ask(0, -1)", x.ask(0, -1), BAD);
        promise = 35;
        due("trace(4), where refused asks leave it", x.trace(4), 10);
        due("trace(5)", x.trace(5), NONE);
        due("trace(-1)", x.trace(-1), NONE);
        due("trace(16)", x.trace(16), NONE);
        due("trace(HIGHEST)", x.trace(HIGHEST), NONE);
        x.twice();
        x.lay(0, 12);
        ask(x, 0, 0, 15, 11, 10, 21, 20);
        ask(x, 1, 0, -17, 12, 11, 10, 24, 21, 20);
    }

    private static void counting() {
        promise = 36;
        TableFirms x = told("t6,2;c0,5;c0,4;c1,0;c1,6;");
        x.row(3, 0, 0);
        x.row(4, 2, 9);
        x.play(6);
        x.feed(99);
        int[] counts = {2, 4, 1, 1, 1, 6, 1, 1};
        for (int what = 0; what < counts.length; what++) {
            due("count(" + what + ")", x.count(what), counts[what]);
        }
        due("count(8)", x.count(8), BAD);
        due("count(-1)", x.count(-1), BAD);
        due("count(8) without a table", new TableFirms().count(8), BAD);
        x.drop(3);
        due("count(0)", x.count(0), 1);
        x.lay(3, 1);
        x.play(6);
        due("count(3), two firms'", x.count(3), 2);
        due("count(4)", x.count(4), 0);
    }

    private static void statuses() {
        promise = 37;
        TableFirms x = new TableFirms();
        x.drop(0);
        due("status() of drop", x.status(), 1);
        x.row(0, 9, 0);
        due("status() behind BAD", x.status(), 1);
        x.cast(0, 0);
        due("status() behind STATE", x.status(), 1);
        x.row(0, 0, 3);
        due("status() of row", x.status(), 0);
        x.set(0, 3, 0);
        due("status() of set", x.status(), 2);
        x.feed('t');
        x.table();
        x.play(1);
        due("status() behind other calls", x.status(), 2);
        x.copy(0, 0, 0, 0, 3);
        due("status() of copy", x.status(), 0);
        x.row(1, 1, 3);
        x.copy(0, 0, 1, 0, 3);
        due("status() of copy", x.status(), 5);
        x.row(1, 1, -3);
        due("status() of row", x.status(), 4);
        tell(x, LAST);
        x.as(0, 2);
        due("status() of as", x.status(), 3);
        x.as(3, 0);
        due("status() behind BAD", x.status(), 3);
        x.as(0, 1);
        due("status() of as", x.status(), 0);
        x.cast(7, 0);
        due("status() of cast", x.status(), 1);
        x.cast(0, 0);
        due("status() of cast", x.status(), 0);
        x.played(1, 0, 1);
        due("status() of played", x.status(), 2);
        x.played(1, 0, 0);
        due("status() of played", x.status(), 0);
        x.kinds(0, 1, 7, 0);
        due("status() of kinds", x.status(), 1);
        x.kinds(0, 1, 0, 0);
        due("status() of kinds", x.status(), 0);
        x.set(7, 0, 0);
        x.set(0, 0, 1);
        due("status() of set", x.status(), 0);
        x.cast(0, 1);
        x.drop(0);
        due("status() of drop", x.status(), 0);
    }
}
