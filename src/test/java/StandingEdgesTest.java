/** Edges of how all stand: promises 14 to 16, 21, 24 and 36. */
public final class StandingEdgesTest extends Edges {
    public static void main(String[] args) {
        men();
        places();
        stands();
        pips();
        safe();
        counts();
        end(14, 15, 16, 21, 24, 36);
    }

    private static void men() {
        edge(14, "Of a MAN: 0 FIRM, 1 the POINT (POINTS: THE BAR; NONE: OFF), 2 PIPS, 3 whether at HOME (1, 0). BAD.", """
            man(0, 0) = BAD
            tell(t6,2;c0,0;c1,5;c0,5;c1,0;c0,6;c1,6;) = 6
            man(-1, 0) = BAD  man(6, 0) = BAD  man(HIGHEST, 0) = BAD  man(LOWEST, 0) = BAD
            man(0, -1) = BAD  man(0, 4) = BAD  man(0, HIGHEST) = BAD  man(0, LOWEST) = BAD
            man(0, 0) = 0  man(0, 1) = 0  man(0, 2) = 6  man(0, 3) = 0
            man(1, 0) = 1  man(1, 1) = 5  man(1, 2) = 6  man(1, 3) = 0
            man(2, 0) = 0  man(2, 1) = 5  man(2, 2) = 1  man(2, 3) = 1
            man(3, 0) = 1  man(3, 1) = 0  man(3, 2) = 1  man(3, 3) = 1
            man(4, 0) = 0  man(4, 1) = 6  man(4, 2) = 7  man(4, 3) = 0
            man(5, 0) = 1  man(5, 1) = 6  man(5, 2) = 7  man(5, 3) = 0
            """);
        edge(14, "of FIRM 0 POINTS less his POINT, of FIRM 1 his POINT and 1; on THE BAR POINTS and 1; OFF 0.", """
            tell(t12,4;c0,0;c0,11;c0,12;c1,0;c1,11;c1,12;) = 6
            man(0, 2) = 12  man(1, 2) = 1  man(2, 2) = 13  man(3, 2) = 1  man(4, 2) = 12  man(5, 2) = 13
            tell(t4,1;c0,0;c0,3;c0,4;c1,0;c1,3;c1,4;) = 6
            man(0, 2) = 4   man(1, 2) = 1  man(2, 2) = 5   man(3, 2) = 1  man(4, 2) = 4   man(5, 2) = 5
            tell(t4,1;c0,3;r1,0;) = 2
            play(1) = 0
            man(0, 0) = 0  man(0, 1) = NONE  man(0, 2) = 0  man(0, 3) = 1
            """);
        edge(14, "At HOME: he has HOME PIPS or less, OFF too.", """
            tell(t12,4;c0,8;c0,7;c1,3;c1,4;c0,12;c1,12;) = 6
            man(0, 3) = 1  man(1, 3) = 0  man(2, 3) = 1  man(3, 3) = 0  man(4, 3) = 0  man(5, 3) = 0
            tell(t12,1;c0,11;c0,10;c1,0;c1,1;) = 4
            man(0, 3) = 1  man(1, 3) = 0  man(2, 3) = 1  man(3, 3) = 0
            tell(t4,4;c0,0;c1,3;c0,4;c1,4;) = 4
            man(0, 3) = 1  man(1, 3) = 1  man(2, 3) = 0  man(3, 3) = 0   # THE BAR is 5
            tell(t4,1;c0,3;c0,3;) = 2
            play(6) = 0
            man(0, 3) = 1
            """);
    }

    private static void places() {
        edge(15, "MEN of a FIRM (bits) on a POINT (as many as there are: THE BAR; 1 more: OFF). BAD (no TABLE, too).", """
            on(0, 0) = BAD  on(1, 1) = BAD  on(0, -1) = BAD  on(2, 0) = BAD
            tell(t4,1;c0,0;c1,0;c0,3;c1,3;c0,4;c1,4;c0,0;c1,3;) = 8
            on(-1, 0) = BAD  on(2, 0) = BAD  on(HIGHEST, 0) = BAD  on(LOWEST, 0) = BAD
            on(0, -1) = BAD  on(0, 6) = BAD  on(0, HIGHEST) = BAD  on(0, LOWEST) = BAD
            on(0, 0) = 65  on(0, 1) = 0  on(0, 2) = 0  on(0, 3) = 4  on(0, 4) = 16  on(0, 5) = 0
            on(1, 0) = 2   on(1, 1) = 0  on(1, 2) = 0  on(1, 3) = 136  on(1, 4) = 32  on(1, 5) = 0
            """);
        edge(15, "1 more: OFF", """
            tell(t12,1;c1,12;c0,11;c0,11;) = 3
            on(0, 13) = 0  on(1, 12) = 1  on(0, 12) = 0
            play(1) = 1
            on(0, 13) = 2  on(0, 11) = 4  on(1, 13) = 0  on(0, 14) = BAD
            """);
        edge(15, "Sets are bits.", """
            tell(t4,1;c0,1;c0,1;c0,1;c0,1;c0,1;c0,1;c0,1;c0,1;) = 8
            on(0, 1) = 255  on(1, 1) = 0
            tell(t4,1;c1,4;c1,4;c1,4;c1,4;c1,4;c1,4;c1,4;c1,4;) = 8
            on(1, 4) = 255  on(0, 4) = 0
            """);
    }

    private static void stands() {
        edge(16, "BAD; STATE: no TABLE (ahead of BAD).", """
            stand(0) = STATE  stand(5) = STATE  stand(-1) = STATE  stand(6) = STATE
            tell(t4,1;c0,0;) = 1
            stand(-1) = BAD  stand(6) = BAD  stand(HIGHEST) = BAD  stand(LOWEST) = BAD
            """);
        edge(16, "0 the FIRM that is to throw, 1 the CUBE, 2 whose it is (NONE: nobody's), 3 which has WON (NONE: none), 4 POINTS, 5 HOME.", """
            tell(t12,4;c0,11;c1,0;) = 2
            stand(0) = 0  stand(1) = 1  stand(2) = NONE  stand(3) = NONE  stand(4) = 12  stand(5) = 4
            twice() = 2
            stand(0) = 0  stand(1) = 2  stand(2) = 1
            play(1) = 0
            stand(0) = 1  stand(3) = 0
            tell(t4,1;c0,0;c1,0;) = 2
            play(1) = 0   twice() = 2   stand(2) = 0
            play(1) = 1
            stand(0) = 0  stand(3) = 1  stand(4) = 4  stand(5) = 1
            """);
    }

    private static void pips() {
        edge(21, "PIPS of all (what = 0), LEAD (1) of a FIRM. BAD; STATE: no TABLE (ahead of BAD).", """
            pips(0, 0) = STATE  pips(-1, 0) = STATE  pips(2, 0) = STATE  pips(0, -1) = STATE  pips(0, 2) = STATE
            tell(t12,4;c0,0;c0,12;c1,0;c1,4;) = 4
            pips(-1, 0) = BAD  pips(2, 0) = BAD  pips(HIGHEST, 0) = BAD  pips(LOWEST, 0) = BAD
            pips(0, -1) = BAD  pips(0, 2) = BAD  pips(1, HIGHEST) = BAD  pips(1, LOWEST) = BAD
            pips(0, 0) = 25  pips(1, 0) = 6  pips(0, 1) = -19  pips(1, 1) = 19
            """);
        edge(21, "LEAD of a FIRM: PIPS of all of the other one less its own.", """
            tell(t12,4;c1,12;c1,12;c1,12;c1,12;c1,12;c1,12;c1,12;c1,12;) = 8
            pips(0, 0) = 0  pips(1, 0) = 104  pips(0, 1) = 104  pips(1, 1) = -104   # FIRM 0 has nobody
            tell(t4,1;c0,3;c1,0;) = 2
            pips(0, 0) = 1  pips(1, 0) = 1  pips(0, 1) = 0  pips(1, 1) = 0
            play(1) = 0
            pips(0, 0) = 0  pips(0, 1) = 1  pips(1, 1) = -1                          # all OFF
            """);
    }

    private static void safe() {
        edge(24, "SAFE. BAD; STATE: no TABLE (ahead of BAD).", """
            safe(0) = STATE  safe(-1) = STATE  safe(2) = STATE
            tell(t4,1;c0,0;) = 1
            safe(-1) = BAD  safe(2) = BAD  safe(HIGHEST) = BAD  safe(LOWEST) = BAD
            safe(0) = 0  safe(1) = 0
            """);
        edge(24, "SAFE of a FIRM: its MEN on POINTS (bits) who are not alone there of their FIRM.", """
            tell(t4,1;c0,0;c0,0;c1,0;c1,3;c1,3;c1,3;c0,2;c0,3;) = 8
            safe(0) = 3  safe(1) = 56   # one of the other FIRM is no company
            lay(6, 4) = 2  lay(7, 4) = 3
            safe(0) = 3                 # THE BAR is no POINT
            lay(1, 4) = 0
            safe(0) = 0
            tell(t4,1;c0,3;c0,3;c0,3;c0,3;c0,3;c0,3;c0,3;c0,3;) = 8
            safe(0) = 255
            play(1) = 0  safe(0) = 254
            play(1) = NONE  play(1) = 1  safe(0) = 252   # OFF is no POINT
            """);
    }

    private static void counts() {
        edge(36, "How many: 0 ROWS, 1 MEN, 2 TURN, 3 how many are OFF, 4 how many on THE BAR, 5 POINTS, 6 ACTS that can be undone, 7 bytes on the tape. BAD.", """
            count(-1) = BAD  count(8) = BAD  count(HIGHEST) = BAD  count(LOWEST) = BAD
            count(0) = 0  count(1) = 0  count(2) = 0  count(3) = 0  count(4) = 0  count(5) = 0  count(6) = 0  count(7) = 0
            tell(t6,2;c0,5;c0,5;c1,0;c1,6;c1,0;) = 5
            row(3, 0, 0) = 0  row(7, 2, 40) = 40
            play(1) = 0  play(5) = 3  play(6) = 1  lay(3, 6) = 1  feeds(2, 59) = 2
            count(-1) = BAD  count(8) = BAD
            count(0) = 2  count(1) = 5  count(2) = 3  count(3) = 2  count(4) = 1  count(5) = 6  count(6) = 4  count(7) = 2
            """);
        edge(36, "0 ROWS", """
            row(0, 0, 0) = 0  row(1, 0, 0) = 0  row(2, 0, 0) = 0  row(3, 0, 0) = 0
            row(4, 0, 0) = 0  row(5, 0, 0) = 0  row(6, 0, 0) = 0  row(7, 0, 0) = 0
            count(0) = 8
            row(7, 0, 1) = 1
            count(0) = 8
            drop(0) = 0  count(0) = 7
            """);
        edge(36, "3 how many are OFF, 4 how many on THE BAR", """
            tell(t4,1;c0,3;c0,3;c1,0;c1,0;) = 4
            play(1) = 0  play(1) = 2  count(3) = 2  count(4) = 0
            lay(1, 4) = 3  lay(3, 4) = 0  count(3) = 2  count(4) = 2
            lay(0, 4) = 5  lay(2, 4) = 5  count(3) = 0  count(4) = 4
            """);
    }
}
