/** Edges of section 2's TURNS and ACTS: promises 9 to 13, 30 and 31. (FULL at TURN 999 is beyond 512 calls: PromisesTest has it.) */
public final class ActEdgesTest extends Edges {
    public static void main(String[] args) {
        undoing();
        wrapping();
        turns();
        hits();
        moves();
        doublings();
        lays();
        images();
        end(9, 10, 11, 12, 13, 30, 31);
    }

    private static void undoing() {
        edge(9, "The latest ACT is undone: how many can be undone yet. STATE: none.", """
            undo() = STATE
            tell(t8,3;c0,1;r0,1;o0,4;p1,6;b1,6;c1,3;) = 6
            undo() = STATE
            play(2) = 0                      # the clerk at 3 is hit
            count(6) = 1  undo() = 0
            man(0, 1) = 1  man(5, 1) = 3  stand(0) = 0  count(2) = 0  count(4) = 0
            undo() = STATE
            """);
        edge(9, "each can be undone, the latest first", """
            tell(t6,2;c0,5;c0,4;c1,0;) = 3
            play(6) = 1  twice() = 2  lay(0, 6) = 5  lay(1, 2) = 7  move(2, 1) = 6  count(6) = 5
            undo() = 4  man(2, 1) = 0  stand(0) = 1  count(2) = 1  stand(3) = NONE
            undo() = 3  man(1, 1) = NONE
            undo() = 2  man(0, 1) = 5
            undo() = 1  stand(1) = 1  stand(2) = NONE
            undo() = 0  man(1, 1) = 4  stand(0) = 0  count(2) = 0
            undo() = STATE
            pips(0, 0) = 3  pips(1, 0) = 1  on(0, 4) = 2  on(0, 7) = 0  on(0, 6) = 0  may(6) = 3
            """);
        edge(9, "24 at most are kept", """
            tell(t4,1;p0,0;) = 1
            23 x play(1) = NONE  count(6) = 23
            play(1) = NONE       count(6) = 24
            play(1) = NONE       count(6) = 24
            undo() = 23  count(2) = 24
            play(1) = NONE       count(6) = 24
            """);
        edge(9, "each can be undone", """
            tell(t12,4;c0,0;c0,1;c0,2;c0,3;c1,8;c1,9;c1,10;c1,11;) = 8
            play(1) = 0  play(1) = 7  move(3, 5) = 8  lay(7, 0) = 10  twice() = 2
            on(1, 12) = 16  count(6) = 5
            undo() = 4  undo() = 3  man(7, 1) = 10
            undo() = 2  man(3, 1) = 3  man(4, 1) = 8  stand(0) = 0  count(2) = 2
            undo() = 1  man(7, 1) = 11  stand(0) = 1  count(2) = 1
            undo() = 0  man(0, 1) = 0   stand(0) = 0  count(2) = 0
            """);
        edge(9, "also such by which nothing becomes another", """
            tell(t4,1;p0,0;) = 1
            play(1) = NONE  count(6) = 1
            undo() = 0      count(2) = 0  stand(0) = 0
            """);
        edge(9, "What is refused, or found, changes nothing but status().", """
            tell(t4,1;c0,3;c0,0;c1,3;) = 3
            play(0) = BAD  play(7) = BAD  move(0, 1) = STATE  move(2, 1) = STATE  move(3, 1) = BAD
            lay(0, 3) = STATE  lay(0, 5) = BAD
            count(6) = 0  undo() = STATE
            """);
        edge(9, "STATE: none.", """
            tell(t4,1;c0,0;) = 1
            lay(0, 1) = 0  image(0) = 1
            tell(t4,1;c0,2;) = 1   undo() = STATE
            lay(0, 1) = 2
            restore(0) = 1         undo() = STATE
            man(0, 1) = 1
            """);
    }

    /** 24 acts go round: each undone is the right one, wherever in the round it stands. */
    private static void wrapping() {
        StringBuilder run = new StringBuilder("tell(t12,1;c0,0;) = 1\n");
        for (int act = 1; act <= 60; act++) {
            run.append("lay(0, ").append(act % 12).append(") = ").append((act - 1) % 12).append('\n');
        }
        run.append("count(6) = 24\n");
        for (int left = 23; left >= 0; left--) {
            run.append("undo() = ").append(left).append("  man(0, 1) = ").append((36 + left) % 12).append('\n');
        }
        run.append("undo() = STATE\n");
        for (int act = 37; act <= 62; act++) {
            run.append("lay(0, ").append(act % 12).append(") = ").append((act - 1) % 12).append('\n');
        }
        run.append("count(6) = 24\n");
        for (int left = 23; left >= 0; left--) {
            run.append("undo() = ").append(left).append("  man(0, 1) = ").append((38 + left) % 12).append('\n');
        }
        run.append("undo() = STATE\n");
        edge(9, "of more the oldest is forgotten; each can be undone, the latest first", run.toString());
        edge(9, "ACTS (24 at most are kept", """
            tell(t4,1;c0,0;p1,3;) = 2
            lay(0, 1) = 0  play(1) = 0  twice() = 2  move(1, 1) = STATE  lay(1, 4) = 3  count(6) = 4
            20 x play(6) = NONE
            count(6) = 24  count(2) = 21
            play(6) = NONE
            count(6) = 24  count(2) = 22   # the first, lay(0, 1), is forgotten
            21 x may(6) = 0
            undo() = 23  undo() = 22  undo() = 21  undo() = 20  undo() = 19  undo() = 18  undo() = 17
            undo() = 16  undo() = 15  undo() = 14  undo() = 13  undo() = 12  undo() = 11  undo() = 10
            undo() = 9   undo() = 8   undo() = 7   undo() = 6   undo() = 5   undo() = 4   undo() = 3
            count(2) = 1  stand(1) = 2  man(1, 1) = 4
            undo() = 2  man(1, 1) = 3
            undo() = 1  stand(1) = 1
            undo() = 0  man(0, 1) = 1  count(2) = 0
            undo() = STATE  man(0, 1) = 1
            """);
        edge(10, "An object is used for at most 512 calls after it has been made", """
            tell(t4,1;p0,0;) = 1
            499 x play(1) = NONE
            count(2) = 499
            count(6) = 24
            """);
    }

    private static void turns() {
        edge(10, "BAD; STATE: no TABLE (ahead of BAD), one has WON; FULL: TURN is 999.", """
            play(1) = STATE  play(0) = STATE  play(7) = STATE
            tell(t4,1;c0,3;c1,0;) = 2
            play(0) = BAD  play(7) = BAD  play(HIGHEST) = BAD  play(LOWEST) = BAD
            play(1) = 0
            stand(3) = 0
            play(1) = STATE
            play(0) = BAD  play(7) = BAD   # ahead of: one has WON
            count(2) = 1
            """);
        edge(10, "A TURN by a THROW (1 to 6), by RULE: who goes; NONE: none CAN.", """
            tell(t12,1;c0,0;c1,11;) = 2
            play(1) = 0  man(0, 1) = 1
            play(6) = 1  man(1, 1) = 5
            tell(t6,1;c0,0;c1,1;c1,1;) = 3
            play(1) = NONE
            man(0, 1) = 0  count(2) = 1  stand(0) = 1  count(6) = 1
            """);
        edge(10, "that one goes who has most PIPS, of several the least; if none CAN, none goes.", """
            tell(t8,2;c0,3;c0,1;c0,1;c1,4;c1,6;c1,6;) = 6
            play(1) = 1
            play(1) = 4
            play(1) = 2   # two of 6 PIPS were there
            tell(t8,2;c0,1;c0,8;c0,8;) = 3
            play(1) = 1   # THE BAR: most of all
            tell(t8,2;c0,0;c0,3;c1,1;c1,1;) = 4
            play(1) = 1   # who has most CAN not
            play(1) = 2
            """);
        edge(10, "A TURN: one of the FIRM that is to throw goes, or none CAN; the other FIRM is to throw then, TURN is 1 more.", """
            tell(t4,1;c0,0;) = 1
            stand(0) = 0  count(2) = 0
            play(1) = 0     stand(0) = 1  count(2) = 1
            play(1) = NONE  stand(0) = 0  count(2) = 2   # FIRM 1 has nobody
            play(1) = 0     stand(0) = 1  count(2) = 3
            """);
        edge(10, "WON: all of a FIRM that has any are OFF.", """
            tell(t4,1;c0,3;c0,3;c1,4;) = 3
            stand(3) = NONE
            play(1) = 0   stand(3) = NONE  count(3) = 1   # one of two
            play(4) = 2
            play(1) = 1   stand(3) = 0     count(3) = 2
            tell(t4,1;c1,0;) = 1
            stand(3) = NONE                               # FIRM 0 has none
            play(1) = NONE  stand(3) = NONE
            play(1) = 0     stand(3) = 1
            """);
    }

    private static void hits() {
        edge(11, "If just one of the other FIRM is on the POINT to which one goes, he is HIT: on THE BAR.", """
            tell(t6,2;c0,0;c1,1;c0,2;c0,2;) = 4
            move(0, 1) = 1   man(1, 1) = 6  count(4) = 1  on(1, 6) = 2
            move(1, 5) = 1   man(0, 1) = 6  man(1, 1) = 1  count(4) = 1   # from THE BAR, down to 1
            tell(t6,2;c0,0;c0,1;c1,5;) = 3
            move(0, 1) = 1   man(1, 1) = 1  count(4) = 0  # his own one is not hit
            tell(t6,2;c0,1;c1,2;c0,2;) = 3
            move(0, 1) = 2   man(1, 1) = 6  man(2, 1) = 2  # where both stand: just one of the other FIRM
            """);
        edge(10, "he is HIT: on THE BAR", """
            tell(t4,4;c0,3;c1,0;c1,3;) = 3
            play(1) = 0      # OFF: nobody is HIT there
            stand(3) = 0  count(4) = 0
            tell(t4,4;c0,4;c1,0;) = 2
            play(1) = 0  man(1, 1) = 4
            play(4) = 1  man(0, 1) = 4  man(1, 1) = 0
            undo() = 1   man(0, 1) = 0  man(1, 1) = 4
            undo() = 0   man(0, 1) = 4  man(1, 1) = 0
            """);
    }

    private static void moves() {
        edge(11, "A TURN by a THROW with a MAN: where he is then (POINTS: OFF).", """
            tell(t6,2;c0,5;c0,4;c1,0;) = 3
            move(1, 1) = 5
            stand(0) = 1  count(2) = 1  count(6) = 1
            move(2, 1) = 6   # OFF
            man(2, 1) = NONE  stand(3) = 1
            tell(t6,2;c0,1;c1,5;) = 2
            move(0, 4) = 5   # the last POINT
            move(1, 6) = 0   # from THE BAR to the last one down
            """);
        edge(11, "BAD; STATE: one has WON, he is not of the FIRM that is to throw, he CAN not; FULL: TURN is 999.", """
            move(0, 1) = BAD
            tell(t4,1;c0,3;c1,0;c1,3;c0,3;) = 4
            move(-1, 1) = BAD  move(4, 1) = BAD  move(HIGHEST, 1) = BAD  move(LOWEST, 1) = BAD
            move(0, 0) = BAD   move(0, 7) = BAD  move(0, HIGHEST) = BAD  move(0, LOWEST) = BAD
            move(1, 1) = STATE                        # of the other FIRM
            move(1, 7) = BAD  move(4, 7) = BAD        # ahead of STATE
            move(0, 1) = 4
            move(3, 1) = STATE                        # of the other FIRM now
            move(1, 1) = STATE                        # he would be OFF, and one is not at HOME
            move(2, 1) = 2
            move(0, 1) = STATE                        # he is OFF
            move(3, 1) = 4
            move(2, 1) = STATE  move(0, 1) = STATE    # one has WON
            move(4, 1) = BAD    move(2, 7) = BAD      # ahead of STATE
            count(2) = 3
            """);
        edge(11, "a TURN by a THROW, by RULE, or with a MAN told;", """
            tell(t8,2;c0,0;c0,3;) = 2
            move(1, 1) = 4    # by RULE the other would go
            play(1) = NONE
            play(1) = 0
            count(6) = 3  count(2) = 3
            undo() = 2  undo() = 1  undo() = 0
            play(1) = 0
            """);
        edge(11, "he CAN not", """
            tell(t6,2;c0,0;c0,6;c1,1;c1,1;) = 4
            move(0, 3) = STATE   # the other is on THE BAR
            move(1, 2) = STATE   # two of the other FIRM
            count(2) = 0
            move(1, 1) = 0
            """);
    }

    private static void doublings() {
        edge(12, "Doubled: the CUBE. STATE: no TABLE, one has WON, it is the other one's, it is 64.", """
            twice() = STATE
            tell(t4,1;c0,3;c1,3;) = 2
            twice() = 2
            stand(0) = 0  stand(1) = 2  stand(2) = 1  count(2) = 0  count(6) = 1
            twice() = STATE   # it is the other one's
            play(1) = 0
            stand(3) = 0
            twice() = STATE   # one has WON, and it is whose turn it is
            stand(1) = 2
            """);
        edge(12, "(it is the other one's then; 64 at most)", """
            tell(t4,1;p0,0;) = 1
            play(1) = NONE
            twice() = 2       stand(2) = 0
            twice() = STATE
            play(1) = NONE
            twice() = 4       stand(2) = 1
            play(1) = NONE
            twice() = 8       stand(2) = 0
            play(1) = NONE
            twice() = 16      stand(2) = 1
            play(1) = NONE
            twice() = 32      stand(2) = 0
            play(1) = NONE
            twice() = 64      stand(2) = 1
            twice() = STATE
            play(1) = NONE
            twice() = STATE   stand(1) = 64  stand(2) = 1
            undo() = 12       undo() = 11
            stand(1) = 32     stand(2) = 0
            twice() = 64
            """);
        edge(12, "one has WON", """
            tell(t4,1;c0,3;c1,3;) = 2
            play(1) = 0
            twice() = STATE   stand(1) = 1  stand(2) = NONE
            lay(0, 3) = 5
            twice() = 2       stand(2) = 0   # nobody has WON any more
            """);
    }

    private static void lays() {
        edge(13, "Put on a POINT (0 on; as many as there are: THE BAR): where he was (POINTS and 1: OFF). BAD; STATE: he is there.", """
            lay(0, 0) = BAD
            tell(t6,2;c0,5;c0,4;c1,0;) = 3
            lay(-1, 0) = BAD  lay(3, 0) = BAD  lay(HIGHEST, 0) = BAD  lay(LOWEST, 0) = BAD
            lay(0, -1) = BAD  lay(0, 7) = BAD  lay(0, HIGHEST) = BAD  lay(0, LOWEST) = BAD
            lay(0, 5) = STATE
            lay(0, 0) = 5
            lay(0, 0) = STATE
            lay(0, 6) = 0
            lay(0, 6) = STATE
            lay(0, 5) = 6
            count(6) = 3  count(2) = 0  stand(0) = 0
            play(6) = 1
            lay(1, 7) = BAD   # OFF is not where one is put
            lay(1, 6) = 7     # where he was: OFF
            count(3) = 0  count(4) = 1
            """);
        edge(13, "a MAN is put on a POINT, on THE BAR, whoever is there (one who is OFF, too).", """
            tell(t4,1;c0,3;c1,0;c1,0;c1,3;) = 4
            lay(0, 0) = 3   # where two of the other FIRM are
            on(0, 0) = 1  on(1, 0) = 6  count(4) = 0
            lay(0, 3) = 0   # where one is: nobody is HIT
            on(1, 3) = 8  count(4) = 0
            play(1) = 0     # OFF
            stand(3) = 0
            lay(1, 4) = 0
            lay(0, 2) = 5
            stand(3) = NONE  man(0, 1) = 2  count(3) = 0
            play(5) = NONE
            """);
        edge(13, "whoever is there", """
            tell(t4,1;c0,0;c0,0;c0,0;c0,0;c1,3;c1,3;c1,3;c1,3;) = 8
            lay(0, 4) = 0  lay(1, 4) = 0  lay(2, 4) = 0  lay(3, 4) = 0
            lay(4, 4) = 3  lay(5, 4) = 3  lay(6, 4) = 3  lay(7, 4) = 3
            count(4) = 8  on(0, 4) = 15  on(1, 4) = 240  on(0, 0) = 0  on(1, 3) = 0
            """);
    }

    private static void images() {
        edge(30, "An IMAGE (0, 1) is kept of the TABLE: 1. BAD; STATE: no TABLE.", """
            image(0) = STATE  image(1) = STATE
            image(-1) = BAD  image(2) = BAD   # ahead of STATE
            tell(t4,1;c0,0;) = 1
            image(-1) = BAD  image(2) = BAD  image(HIGHEST) = BAD  image(LOWEST) = BAD
            play(1) = 0
            image(1) = 1
            count(6) = 1  undo() = 0   # the ACTS stay
            restore(0) = STATE
            restore(1) = 1
            man(0, 1) = 1
            """);
        edge(30, "is kept of the TABLE", """
            tell(t4,1;c0,0;) = 1
            image(0) = 1
            lay(0, 2) = 0
            image(0) = 1   # in place of the first
            lay(0, 3) = 2
            image(1) = 1
            lay(0, 4) = 3
            restore(0) = 1  man(0, 1) = 2
            lay(0, 1) = 2   # what is done behind it leaves the IMAGE
            restore(0) = 1  man(0, 1) = 2
            restore(1) = 1  man(0, 1) = 3
            """);
        edge(31, "The TABLE is as an IMAGE kept it (no ACT can be undone then): 1. BAD; STATE: none was kept.", """
            restore(0) = STATE  restore(1) = STATE
            restore(-1) = BAD  restore(2) = BAD  restore(HIGHEST) = BAD  restore(LOWEST) = BAD
            tell(t6,2;c0,5;r0,4;c1,6;) = 3
            play(6) = 1  twice() = 2  play(3) = 2  image(1) = 1
            restore(0) = STATE
            tell(t12,4;b1,0;b1,1;o1,2;o1,3;p1,4;p1,5;c1,6;c1,7;) = 8
            play(1) = NONE
            restore(1) = 1
            count(6) = 0  undo() = STATE
            count(1) = 3  count(2) = 2  count(3) = 1  count(4) = 0  count(5) = 6
            stand(0) = 0  stand(1) = 2  stand(2) = 0  stand(5) = 2
            kind(1) = 2  man(0, 1) = 5  man(1, 1) = NONE  man(2, 1) = 3  man(3, 0) = BAD
            pips(0, 0) = 1  pips(1, 0) = 4  on(1, 3) = 4  may(1) = 1
            """);
        edge(31, "no ACT can be undone then", """
            tell(t4,1;c0,0;) = 1
            image(0) = 1  play(1) = 0
            restore(0) = 1  undo() = STATE  count(2) = 0
            play(2) = 0  undo() = 0  man(0, 1) = 0
            """);
    }
}
