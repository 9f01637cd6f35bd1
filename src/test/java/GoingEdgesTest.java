/** Edges of section 2's throws, by whom they CAN be gone, and of who may be hit: promises 17 to 20. */
public final class GoingEdgesTest extends Edges {
    public static void main(String[] args) {
        may();
        whither();
        strides();
        canGo();
        partners();
        shots();
        enter();
        end(17, 18, 19, 20);
    }

    private static void may() {
        edge(17, "MAY (bits). BAD; STATE: no TABLE (ahead of BAD).", """
            may(1) = STATE  may(0) = STATE  may(7) = STATE
            tell(t12,1;c0,0;) = 1
            may(0) = BAD  may(7) = BAD  may(HIGHEST) = BAD  may(LOWEST) = BAD
            may(1) = 1  may(6) = 1
            """);
        edge(17, "MAY by a THROW: who CAN go of the FIRM that is to throw (bits);", """
            tell(t12,4;c0,0;c0,1;c0,2;c0,3;c0,4;c0,5;c0,5;c0,5;) = 8
            may(1) = 255  may(6) = 255
            play(1) = 0
            may(1) = 0               # FIRM 1 has nobody
            tell(t12,4;c0,0;c1,6;c1,6;p0,1;) = 4
            may(1) = 1  may(5) = 1  may(6) = 0
            play(1) = 0
            may(1) = 6  may(6) = 6   # FIRM 1 is to throw
            tell(t4,1;c0,3;c1,1;) = 2
            play(1) = 0
            may(1) = 2               # one has WON: who CAN go yet
            """);
    }

    private static void whither() {
        edge(18, "WHITHER; NONE. BAD.", """
            whither(0, 1) = BAD
            tell(t6,2;c0,0;c1,5;) = 2
            whither(-1, 1) = BAD  whither(2, 1) = BAD  whither(HIGHEST, 1) = BAD  whither(LOWEST, 1) = BAD
            whither(0, 0) = BAD   whither(0, 7) = BAD  whither(0, HIGHEST) = BAD  whither(0, LOWEST) = BAD
            whither(0, 1) = 1  whither(0, 5) = 5  whither(0, 6) = NONE
            """);
        edge(18, "WHITHER a MAN goes by a THROW (POINTS: OFF; NONE: he CAN not; whosever turn it is).", """
            tell(t6,2;c0,0;c1,5;) = 2
            whither(1, 1) = 4  whither(1, 5) = 0  whither(1, 6) = NONE
            play(1) = 0
            whither(0, 1) = 2  whither(1, 3) = 2
            tell(t6,2;c0,5;c1,1;) = 2
            whither(0, 1) = 6  whither(1, 1) = 0  whither(1, 2) = 6
            """);
    }

    private static void strides() {
        edge(18, "FIRM 0 goes up, FIRM 1 down.", """
            tell(t4,1;c0,0;c1,3;c0,2;c1,1;) = 4
            whither(0, 1) = 1  whither(1, 1) = 2  whither(2, 1) = 3  whither(3, 1) = 0
            whither(2, 2) = NONE  whither(3, 2) = NONE
            tell(t4,1;c0,4;c1,4;) = 2
            whither(0, 1) = 0  whither(0, 4) = 3  whither(0, 5) = NONE
            whither(1, 1) = 3  whither(1, 4) = 0  whither(1, 5) = NONE
            """);
        edge(18, "By a THROW (1 to 6) a clerk goes so many; a runner 1 more; an old one half of it (what is over counts as a whole one);", """
            tell(t12,1;c0,0;r0,0;o0,0;c1,11;r1,11;o1,11;c0,12;r0,12;) = 8
            lay(6, 1) = 12  lay(7, 1) = 12
            whither(0, 1) = 1  whither(0, 2) = 2  whither(0, 3) = 3  whither(0, 4) = 4  whither(0, 5) = 5  whither(0, 6) = 6
            whither(1, 1) = 2  whither(1, 2) = 3  whither(1, 3) = 4  whither(1, 4) = 5  whither(1, 5) = 6  whither(1, 6) = 7
            whither(2, 1) = 1  whither(2, 2) = 1  whither(2, 3) = 2  whither(2, 4) = 2  whither(2, 5) = 3  whither(2, 6) = 3
            whither(3, 1) = 10  whither(3, 6) = 5
            whither(4, 1) = 9   whither(4, 6) = 4
            whither(5, 1) = 10  whither(5, 2) = 10  whither(5, 5) = 8  whither(5, 6) = 8
            """);
        edge(18, "a partner, a blot as a clerk.", """
            tell(t12,1;p0,0;b0,0;p1,11;b1,11;) = 4
            whither(0, 1) = 1  whither(0, 6) = 6  whither(1, 1) = 1  whither(1, 6) = 6
            whither(2, 1) = 10  whither(2, 6) = 5  whither(3, 1) = 10  whither(3, 6) = 5
            """);
        edge(18, "So many PIPS fewer he has then; with 0 or fewer he is OFF.", """
            tell(t6,4;c0,2;c1,3;) = 2   # 4 PIPS, and 4
            whither(0, 3) = 5  whither(0, 4) = 6  whither(0, 5) = 6  whither(0, 6) = 6
            whither(1, 3) = 0  whither(1, 4) = 6  whither(1, 5) = 6  whither(1, 6) = 6
            tell(t6,4;r0,4;o0,4;r1,1;o1,1;) = 4   # 2 PIPS
            whither(0, 1) = 6  whither(1, 1) = 5  whither(1, 2) = 5  whither(1, 3) = 6  whither(1, 6) = 6
            whither(2, 1) = 6  whither(3, 1) = 0  whither(3, 2) = 0  whither(3, 3) = 6  whither(3, 6) = 6
            tell(t6,4;c0,6;r0,6;o0,6;c1,6;r1,6;o1,6;) = 6   # 7 PIPS
            whither(0, 1) = 0  whither(0, 6) = 5  whither(1, 1) = 1  whither(1, 5) = 5  whither(1, 6) = NONE
            whither(2, 1) = 0  whither(2, 6) = 2
            whither(3, 1) = 5  whither(3, 6) = 0  whither(4, 1) = 4  whither(4, 5) = 0  whither(4, 6) = NONE
            whither(5, 1) = 5  whither(5, 6) = 3
            """);
    }

    private static void canGo() {
        edge(18, "he is not OFF;", """
            tell(t4,1;c0,3;c0,3;) = 2
            play(1) = 0
            whither(0, 1) = NONE  whither(0, 6) = NONE  whither(1, 1) = 4
            """);
        edge(18, "nobody else of his FIRM is on THE BAR, or he is there himself;", """
            tell(t6,2;c0,6;c0,0;c1,5;) = 3
            whither(0, 1) = 0  whither(1, 1) = NONE
            whither(2, 1) = 4           # those of the other FIRM are no matter
            lay(1, 6) = 0
            whither(0, 1) = 0  whither(1, 6) = 5
            lay(0, 5) = 6  lay(1, 5) = 6  lay(2, 6) = 5
            whither(0, 1) = 6  whither(1, 1) = 6  whither(2, 2) = 4
            """);
        edge(18, "if he would be OFF, all of his FIRM are at HOME;", """
            tell(t6,2;c0,5;c0,4;c1,5;) = 3
            whither(0, 1) = 6  whither(1, 2) = 6  whither(2, 6) = NONE
            lay(1, 3) = 4
            whither(0, 1) = NONE  whither(1, 3) = NONE  whither(1, 2) = 5
            lay(1, 6) = 3
            whither(0, 1) = NONE
            lay(1, 5) = 6
            play(1) = 0
            whither(1, 6) = 6           # who is OFF is at HOME, too
            tell(t4,4;c0,4;c0,3;) = 2
            whither(0, 5) = NONE  whither(0, 4) = 3   # who is on THE BAR is not
            """);
        edge(18, "on the POINT that he comes to there are not two or more of the other FIRM;", """
            tell(t6,1;c0,0;c1,1;c1,2;c1,2;c1,3;c1,3;c1,3;) = 7
            whither(0, 1) = 1  whither(0, 2) = NONE  whither(0, 3) = NONE  whither(0, 4) = 4
            tell(t6,1;c1,5;c0,4;c0,3;c0,3;c0,2;c0,2;c0,2;) = 7
            whither(0, 1) = 4  whither(0, 2) = NONE  whither(0, 3) = NONE  whither(0, 4) = 1
            tell(t6,1;c0,0;c0,1;c0,1;c1,1;) = 4
            whither(0, 1) = 1  whither(3, 1) = 0      # his own are no matter
            tell(t6,1;c0,6;c1,0;c1,0;c1,1;) = 4
            whither(0, 1) = NONE  whither(0, 2) = 1   # from THE BAR, too
            """);
        edge(18, "on the POINT that he comes to", """
            tell(t4,1;c0,3;c0,3;c0,3;c1,0;c1,0;c1,0;) = 6
            play(1) = 0  play(1) = 3  play(1) = 1  play(1) = 4
            whither(2, 1) = 4  whither(5, 1) = 4      # two who are OFF stand in nobody's way
            """);
    }

    private static void partners() {
        edge(18, "a partner only if another one of his FIRM is on the POINT (not THE BAR) that he leaves, or on that he comes to,", """
            tell(t8,2;p0,0;c1,3;) = 2
            whither(0, 1) = NONE  whither(0, 2) = NONE  whither(0, 4) = NONE  whither(0, 6) = NONE
            whither(0, 3) = NONE        # just one of the other FIRM is there: that is for a blot
            lay(1, 0) = 3
            whither(0, 1) = NONE        # whom he leaves is of the other FIRM
            lay(1, 1) = 0
            whither(0, 1) = NONE
            tell(t8,2;p0,0;c0,0;) = 2
            whither(0, 1) = 1  whither(0, 6) = 6
            lay(1, 1) = 0
            whither(0, 1) = 1  whither(0, 2) = NONE
            tell(t8,2;p1,7;p1,7;c1,3;) = 3
            whither(0, 1) = 6  whither(1, 1) = 6
            lay(1, 0) = 7
            whither(0, 1) = NONE  whither(0, 4) = 3
            """);
        edge(18, "or if he comes from THE BAR, or would be OFF;", """
            tell(t8,2;p0,8;) = 1
            whither(0, 1) = 0  whither(0, 6) = 5
            lay(0, 7) = 8
            whither(0, 1) = 8
            lay(0, 6) = 7
            whither(0, 1) = NONE  whither(0, 2) = 8  whither(0, 3) = 8
            lay(0, 5) = 6
            whither(0, 3) = NONE        # he would be OFF, and is not at HOME
            """);
        edge(18, "a blot as a partner, or if just one of the other FIRM is on the POINT that he comes to.", """
            tell(t8,2;b0,0;c1,1;c1,2;c1,2;) = 4
            whither(0, 1) = 1  whither(0, 2) = NONE  whither(0, 3) = NONE
            lay(2, 3) = 2  lay(3, 3) = 2  lay(1, 3) = 1
            whither(0, 2) = NONE  whither(0, 3) = NONE   # none, and three
            tell(t8,2;b0,0;c0,0;) = 2
            whither(0, 1) = 1
            lay(1, 2) = 0
            whither(0, 1) = NONE  whither(0, 2) = 2
            lay(0, 8) = 0
            whither(0, 6) = 5
            lay(1, 7) = 2  lay(0, 7) = 8
            whither(0, 1) = 8
            tell(t8,2;b1,7;c0,6;) = 2
            whither(0, 1) = 6  whither(0, 2) = NONE
            """);
    }

    private static void shots() {
        edge(19, "SHOTS. BAD; STATE: he is not on a POINT.", """
            shots(0) = BAD
            tell(t6,2;c0,5;c0,6;c1,0;c0,0;) = 4
            shots(-1) = BAD  shots(4) = BAD  shots(HIGHEST) = BAD  shots(LOWEST) = BAD
            shots(0) = 0  shots(3) = 0
            shots(1) = STATE    # THE BAR
            lay(1, 4) = 6  lay(3, 4) = 0
            play(1) = 1  play(1) = 2  stand(3) = 1
            shots(2) = STATE    # OFF
            shots(1) = 0        # one has WON, and the others stand
            """);
        edge(19, "SHOTS at a MAN: THROWS (bits 1 to 6) by which any of the other FIRM CAN go and would HIT him (whosever turn it is).", """
            tell(t12,4;c0,0;c1,1;c1,2;c1,3;c1,4;c1,5;c1,6;) = 7
            shots(0) = 126      # a man by each
            shots(1) = 2  shots(6) = 64
            play(6) = 0         # he HIT the last, who is on THE BAR
            shots(0) = 64       # from THE BAR by 6, and only he CAN go
            lay(6, 7) = 12
            shots(0) = 2
            """);
        edge(19, "by which any of the other FIRM", """
            tell(t12,4;c1,0;c0,11;c0,10;c0,9;c0,8;c0,7;c0,6;c0,5;) = 8
            shots(0) = 0                 # they go up, away from him
            shots(7) = 0  shots(1) = 0
            lay(7, 12) = 5
            shots(0) = 2                 # the last of eight, from THE BAR
            tell(t12,4;c0,2;c1,4;c1,5;c1,5;c1,6;c1,6;c1,7;c1,8;) = 8
            shots(0) = 124               # the last by 6
            tell(t12,4;c0,2;) = 1
            shots(0) = 0                 # those of the TABLE before are gone
            """);
        edge(19, "would HIT him", """
            tell(t12,4;c0,5;c0,5;c1,6;c1,4;) = 4
            shots(0) = 0  shots(1) = 0   # two stand there
            lay(1, 7) = 5
            shots(0) = 2                 # by 1 from 6; who is at 4 goes down
            shots(1) = 0
            lay(3, 8) = 4
            shots(0) = 10                # by 1 and by 3
            lay(2, 12) = 6
            shots(0) = 0                 # 13 PIPS less 6 are more than 6, and the other CAN not go
            """);
        edge(19, "by which any of the other FIRM CAN go", """
            tell(t12,4;c0,11;c1,12;) = 2
            shots(0) = 2                 # from THE BAR to the last POINT
            tell(t12,4;c1,0;c0,12;) = 2
            shots(0) = 2
            tell(t12,4;c0,0;p1,1;b1,2;r1,4;o1,3;) = 5
            shots(0) = 108               # a blot by 2, a runner by 3, an old one by 5 and 6; a partner alone by none
            """);
    }

    private static void enter() {
        edge(20, "ENTER; NONE. BAD; STATE: no TABLE (ahead of BAD).", """
            enter(0) = STATE  enter(-1) = STATE  enter(2) = STATE
            tell(t12,4;c0,12;c1,0;) = 2
            enter(-1) = BAD  enter(2) = BAD  enter(HIGHEST) = BAD  enter(LOWEST) = BAD
            enter(0) = 126  enter(1) = NONE
            """);
        edge(20, "ENTER of a FIRM: THROWS (bits) by which any of it that is on THE BAR CAN go; NONE: none is there.", """
            tell(t4,1;c0,4;) = 1
            enter(0) = 30  enter(1) = NONE   # by 5 he would be OFF
            lay(0, 3) = 4
            enter(0) = NONE
            play(1) = 0
            enter(0) = NONE                  # all are OFF
            tell(t4,1;r0,4;c1,4;) = 2
            enter(0) = 14  enter(1) = 30
            tell(t4,1;o0,4;c1,0;c1,0;c1,1;c1,1;c1,2;c1,2;) = 7
            enter(0) = 0                     # he is there, and CAN not go
            lay(1, 3) = 0
            enter(0) = 6
            tell(t4,1;o0,4;r0,4;c1,0;c1,0;) = 4
            enter(0) = 126                   # the old one by 3 to 6, the runner by 1 to 3
            tell(t8,1;p1,8;c0,7;c0,7;c0,6;) = 4
            enter(1) = 124
            """);
    }
}
