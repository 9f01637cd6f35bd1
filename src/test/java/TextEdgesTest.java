/** Edges of section 1's TEXTS and FAULTS: promises 6 to 8. */
public final class TextEdgesTest extends Edges {
    public static void main(String[] args) {
        tape();
        laws();
        men();
        tokens();
        ends();
        tablesRead();
        faultsTold();
        end(6, 7, 8);
    }

    private static void tape() {
        edge(6, "A byte (0 to 255) comes behind the tape: how many it has. BAD; FULL.", """
            feed(-1) = BAD  feed(256) = BAD  feed(HIGHEST) = BAD  feed(LOWEST) = BAD
            count(7) = 0
            feed(0) = 1  feed(255) = 2
            count(7) = 2
            """);
        edge(6, "THE TAPE has at most 90 bytes, that come one by one", """
            feeds(89, 255) = 89
            feed(116) = 90
            feed(116) = FULL  feed(0) = FULL  feed(255) = FULL
            feed(-1) = BAD  feed(256) = BAD   # ahead of FULL
            count(7) = 90
            """);
        // t, then what is a run of 89 figures: of one token its first byte
        edge(6, "FULL (as told)", """
            feed(116) = 1  feeds(89, 48) = 90
            feed(48) = FULL
            table() = fault@1
            count(7) = 0
            feeds(90, 48) = 90
            feed(48) = FULL
            table() = fault@0
            """);
        edge(7, "the end: how many bytes there are", """
            tell() = fault@0
            fault() = 1
            feed(116) = 1
            table() = fault@1
            tell(t12,4;) = fault@6
            tell(t12,4;c0,12;c0,12;c0,12;c0,12;c0,12;c0,12;c0,12;c0,12) = fault@53
            fault() = 1
            """);
        edge(7, "The tape, empty then (with a FAULT, too), is read: how many MEN there are.", """
            tell(t4,1;c0,0;) = 1
            count(7) = 0
            table() = fault@0    # nothing is there any more
            tell(x) = fault@0
            count(7) = 0
            tell(t5,1;c0,0;c1,0;) = 2
            count(7) = 0
            """);
    }

    private static void laws() {
        edge(7, "(4 to 12: POINTS 0, 1, ..; 1 to 4)", """
            tell(t3,1;c0,0;) = fault@1   fault() = 2
            tell(t4,1;c0,0;) = 1         stand(4) = 4
            tell(t12,1;c0,0;) = 1        stand(4) = 12
            tell(t13,1;c0,0;) = fault@1  fault() = 2
            tell(t0,1;c0,0;) = fault@1   fault() = 2
            tell(t99,1;c0,0;) = fault@1  fault() = 2
            tell(t4,0;c0,0;) = fault@3   fault() = 2
            tell(t4,1;c0,0;) = 1         stand(5) = 1
            tell(t4,4;c0,0;) = 1         stand(5) = 4
            tell(t4,5;c0,0;) = fault@3   fault() = 2
            tell(t4,99;c0,0;) = fault@3  fault() = 2
            """);
        edge(7, "law: t POINTS , HOME ;", """
            tell(s4,1;c0,0;) = fault@0  fault() = 1
            tell(u4,1;c0,0;) = fault@0  fault() = 1
            tell(T4,1;c0,0;) = fault@0  fault() = 1
            tell(4,1;c0,0;) = fault@0   fault() = 1
            tell(tt4,1;c0,0;) = fault@1 fault() = 1
            tell(t,1;c0,0;) = fault@1   fault() = 1
            tell(t4;1;c0,0;) = fault@2  fault() = 1
            tell(t4 1;c0,0;) = fault@2  fault() = 1
            tell(t4,;c0,0;) = fault@3   fault() = 1
            tell(t4,,1;c0,0;) = fault@3 fault() = 1
            tell(t4,1,c0,0;) = fault@4  fault() = 1
            tell(t4,1c0,0;) = fault@4   fault() = 1
            tell(t4,1;;c0,0;) = fault@5 fault() = 1
            """);
    }

    private static void men() {
        edge(7, "table: law man { man }.", """
            tell(t4,1;) = fault@5  fault() = 1
            tell(t4,1;c0,0;) = 1
            tell(t4,1;t4,1;) = fault@5  fault() = 1
            tell(t4,1;c0,0;t4,1;) = fault@10  fault() = 1
            """);
        edge(7, "man: SORT FIRM , AT ;", """
            tell(t4,1;0,0;) = fault@5     fault() = 1
            tell(t4,1;cc0,0;) = fault@6   fault() = 1
            tell(t4,1;c,0;) = fault@6     fault() = 1
            tell(t4,1;c0;0;) = fault@7    fault() = 1
            tell(t4,1;c0,;) = fault@8     fault() = 1
            tell(t4,1;c0,c;) = fault@8    fault() = 1
            tell(t4,1;c0,0,) = fault@9    fault() = 1
            tell(t4,1;c0,0c0,0;) = fault@9  fault() = 1
            tell(t4,1;c0,0;;) = fault@10  fault() = 1
            tell(t4,1;c0,0;0) = fault@10  fault() = 1
            """);
        edge(7, "(SORT: c a clerk, r a runner, o an old one, p a partner, b a blot; 0 or 1;", """
            tell(t4,1;c0,0;r0,0;o0,0;p0,0;b0,0;) = 5
            kind(0) = 1  kind(1) = 2  kind(2) = 3  kind(3) = 4  kind(4) = 5
            tell(t4,1;a0,0;) = fault@5  tell(t4,1;d0,0;) = fault@5  tell(t4,1;q0,0;) = fault@5
            tell(t4,1;s0,0;) = fault@5  tell(t4,1;n0,0;) = fault@5  tell(t4,1;C0,0;) = fault@5
            fault() = 1
            tell(t4,1;c0,0;) = 1  man(0, 0) = 0
            tell(t4,1;c1,0;) = 1  man(0, 0) = 1
            tell(t4,1;c2,0;) = fault@6  fault() = 2
            tell(t4,1;c10,0;) = fault@6  fault() = 2
            """);
        edge(7, "0 to as many as there are POINTS: that means THE BAR;", """
            tell(t4,1;c0,0;c1,3;) = 2    man(0, 1) = 0  man(1, 1) = 3  count(4) = 0
            tell(t4,1;c0,4;c1,4;) = 2    count(4) = 2
            tell(t4,1;c0,5;) = fault@8   fault() = 2
            tell(t12,1;c0,11;c0,12;) = 2 count(4) = 1
            tell(t12,1;c0,13;) = fault@9  fault() = 2
            tell(t5,1;c0,5;) = 1         count(4) = 1
            """);
        edge(7, "MEN 0 .. 7, 8 at most", """
            tell(t4,1;c0,0;c0,0;c0,0;c0,0;c0,0;c0,0;c0,0;) = 7
            tell(t4,1;c0,0;c0,0;c0,0;c0,0;c0,0;c0,0;c0,0;c0,0;) = 8
            count(1) = 8
            kind(7) = 1  kind(8) = BAD
            tell(t4,1;c0,0;c0,0;c0,0;c0,0;c0,0;c0,0;c0,0;c0,0;c0,0;) = fault@45
            fault() = 3
            """);
        edge(7, "3 a man more than there is room for (its letter).", """
            tell(t4,1;c0,0;c0,0;c0,0;c0,0;c0,0;c0,0;c0,0;c0,0;b) = fault@45   fault() = 3
            tell(t4,1;c0,0;c0,0;c0,0;c0,0;c0,0;c0,0;c0,0;c0,0;b9,9;) = fault@45  fault() = 3
            """);
    }

    private static void tokens() {
        edge(7, "letters a to z (each by itself), NUMBERS (figures, 2 at most), SIGNS , and ; nothing else.", """
            tell(t04,01;c00,00;p01,04;) = 2
            stand(4) = 4  stand(5) = 1  man(1, 0) = 1  man(1, 1) = 4
            tell(t4,1;c0,0; ) = fault@10  tell(t4,1;c0,0;.) = fault@10  tell(t4,1;c0,0;:) = fault@10
            tell( t4,1;c0,0;) = fault@0   tell(t 4,1;c0,0;) = fault@1   tell(t-4,1;c0,0;) = fault@1
            tell(t+4,1;c0,0;) = fault@1   tell(t/,1;c0,0;) = fault@1    tell(t:,1;c0,0;) = fault@1
            fault() = 1
            """);
        // beside the figures stand 47 and 58, beside the signs 43, 45, 58, 60
        edge(7, "nothing else", """
            feed(116) = 1  feed(47) = 2  table() = fault@1
            feed(116) = 1  feed(58) = 2  table() = fault@1
            feed(116) = 1  feed(52) = 2  feed(43) = 3  table() = fault@2
            feed(116) = 1  feed(52) = 2  feed(45) = 3  table() = fault@2
            feed(116) = 1  feed(52) = 2  feed(58) = 3  table() = fault@2
            feed(116) = 1  feed(52) = 2  feed(60) = 3  table() = fault@2
            feed(0) = 1    table() = fault@0
            feed(255) = 1  table() = fault@0
            feed(244) = 1  table() = fault@0   # 116 and 128
            fault() = 1
            """);
        edge(8, "or is none (a run of three figures or more, at its first;", """
            tell(t004,1;c0,0;) = fault@1    fault() = 1
            tell(t123,1;c0,0;) = fault@1    fault() = 1
            tell(t0000000004,1;) = fault@1  fault() = 1
            tell(t4294967300,1;) = fault@1  fault() = 1
            tell(t4,001;c0,0;) = fault@3    fault() = 1
            tell(t4,1;c000,0;) = fault@6    fault() = 1
            tell(t4,1;c0,000;) = fault@8    fault() = 1
            tell(t4,1;c0,000) = fault@8     fault() = 1
            tell(t12,4;000) = fault@6       fault() = 1
            """);
        edge(8, "1 it cannot stand there", """
            tell(t4,1;c0,0;c) = fault@11  fault() = 1
            tell(c0,0;) = fault@0         fault() = 1
            tell(;) = fault@0             fault() = 1
            tell(7) = fault@0             fault() = 1
            """);
        edge(8, "2 a NUMBER that is not as told", """
            tell(t00,1;) = fault@1   fault() = 2
            tell(t4,00;) = fault@3   fault() = 2
            tell(t4,1;c02,) = fault@6    fault() = 2
            tell(t4,1;c0,05;) = fault@8  fault() = 2
            tell(t12,4;c1,99) = fault@9  fault() = 2
            """);
    }

    private static void ends() {
        edge(7, "-1000100 less the place of a FAULT: all else stays.", """
            tell(t4) = fault@2    tell(t4,) = fault@3    tell(t4,1) = fault@4   tell(t4,1;) = fault@5
            tell(t4,1;c) = fault@6  tell(t4,1;c0) = fault@7  tell(t4,1;c0,) = fault@8  tell(t4,1;c0,0) = fault@9
            tell(t) = fault@1     fault() = 1
            """);
        edge(7, "The tape, empty then", """
            tell(t4,1;c0,0;c1,0;) = 2   # what is read no more cannot go on behind a shorter text
            tell(t4,1;c0,0;c1,0) = fault@14  tell(t4,1;c0,0;c1,) = fault@13  tell(t4,1;c0,0;c1) = fault@12
            tell(t4,1;c0,0;c) = fault@11     tell(t4,1;c0,0;) = 1
            tell(t4,1;c0,0) = fault@9   tell(t4,1;c0,) = fault@8  tell(t4,1;c0) = fault@7  tell(t4,1;c) = fault@6
            tell(t4,1;) = fault@5  tell(t4,1) = fault@4  tell(t4,) = fault@3  tell(t4) = fault@2  tell(t) = fault@1
            table() = fault@0      fault() = 1
            """);
        edge(7, "FAULTS, the first TOKEN that has one (its first byte), of one TOKEN the least:", """
            tell(t3,9;c0,0;) = fault@1   fault() = 2   # POINTS, ahead of HOME
            tell(t4,9;x) = fault@3       fault() = 2   # HOME, ahead of what cannot stand there
            tell(t4,1;x9,9;) = fault@5   fault() = 1
            tell(t4,1;c9,9;) = fault@6   fault() = 2
            tell(t4,1;c999,9;) = fault@6 fault() = 1   # it is no NUMBER, and not as told
            tell(t4,1;c0,0;c0,0;c0,0;c0,0;c0,0;c0,0;c0,0;c9,0;c) = fault@41  fault() = 2
            tell(t4,1;c0,0;c0,0;c0,0;c0,0;c0,0;c0,0;c0,0;c0,0;x) = fault@45  fault() = 1
            tell(t4,1;c0,0;c0,0;c0,0;c0,0;c0,0;c0,0;c0,0;c0,0;t) = fault@45  fault() = 1
            tell(t4,1;c0,0;c0,0;c0,0;c0,0;c0,0;c0,0;c0,0;c0,0;0) = fault@45  fault() = 1
            """);
    }

    private static void tablesRead() {
        edge(7, "TURN 0, FIRM 0 is to throw, the CUBE is 1, nobody's; no ACT can be undone; IMAGES and ROWS stay.", """
            tell(t6,2;c0,5;c0,4;c1,0;) = 3
            play(6) = 1  twice() = 2  image(1) = 1  fill(5, 1, 3, 4) = 2
            count(2) = 1  count(6) = 2  stand(0) = 1  stand(1) = 2  stand(2) = 0
            tell(t4,2;c1,0;) = 1
            count(2) = 0  count(6) = 0  count(3) = 0  count(5) = 4
            stand(0) = 0  stand(1) = 1  stand(2) = NONE  stand(3) = NONE  stand(4) = 4  stand(5) = 2
            man(1, 0) = BAD
            undo() = STATE
            count(0) = 1  set(5, 1, 40000) = -25536  set(5, 2, 0) = PLACE
            restore(1) = 1
            count(1) = 3  count(2) = 1  count(3) = 1  stand(1) = 2  stand(2) = 0
            restore(0) = STATE
            """);
        edge(7, "A TABLE that is read stands in place of the one before", """
            tell(t4,1;c0,3;c1,4;) = 2
            play(1) = 0  stand(3) = 0
            tell(t4,1;c0,3;c1,3;) = 2    # the same letters, and nobody is OFF
            stand(3) = NONE  count(3) = 0  count(4) = 0  pips(0, 0) = 1  pips(1, 0) = 4
            """);
        edge(7, "all else stays", """
            tell(t5,2;c0,1;r1,4;) = 2
            play(1) = 0  image(1) = 1  twice() = 2  image(0) = 1  fill(0, 0, 2, 3) = 2  drop(7) = NULL  ask(1, 0) = -11
            tell(t9,9;) = fault@3  tell(t4,1;c0,0;c1,) = fault@13  tell() = fault@0  tell(t4,1;c0,0;c1,9;) = fault@13
            count(0) = 1  count(1) = 2  count(2) = 1  count(5) = 5  count(6) = 2
            stand(0) = 1  stand(1) = 2  stand(2) = 0
            man(0, 1) = 2  man(1, 1) = 4  status() = 1  trace(0) = 12
            undo() = 1
            """);
        edge(7, "no TABLE", """
            tell(t4,1;c0,0;c1,) = fault@13
            count(1) = 0  stand(0) = STATE  kind(0) = BAD  may(1) = STATE  image(0) = STATE
            """);
    }

    private static void faultsTold() {
        edge(8, "The number of the latest FAULT; 0 before one.", """
            fault() = 0
            tell(t4,1;c0,0;) = 1  fault() = 0
            tell(t3) = fault@1    fault() = 2
            tell(x) = fault@0     fault() = 1
            tell(t4,1;c0,0;c0,0;c0,0;c0,0;c0,0;c0,0;c0,0;c0,0;c) = fault@45  fault() = 3
            tell(t4,1;c0,0;) = 1  fault() = 3
            feed(256) = BAD       fault() = 3
            tell(t3) = fault@1    fault() = 2
            """);
    }
}
