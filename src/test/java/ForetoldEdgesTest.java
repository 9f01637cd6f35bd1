/** Edges of section 3, what is foretold and what was: promises 22, 23 and 25 to 29. */
public final class ForetoldEdgesTest extends Edges {
    public static void main(String[] args) {
        nothingChanges();
        best();
        race();
        cast();
        played();
        kinds();
        chance();
        drawn();
        end(22, 23, 25, 26, 27, 28, 29);
    }

    /** Behind each edge all is as it is without its calls that only tell; here they are all. */
    private static void nothingChanges() {
        edge(22, "FORETOLD (nothing changes).", """
            tell(t8,3;c0,1;r0,1;o0,4;p1,6;b1,6;c1,3;) = 6
            play(2) = 0  twice() = 2  lay(1, 0) = 1  image(1) = 1  ask(1, 0) = -14  feed(99) = 1
            fill(0, 0, 3, 0, 4, 6, 6, 3) = 6
            may(1) = 32  whither(5, 5) = 3  shots(0) = 32  enter(1) = 126  pips(0, 0) = 17  pips(0, 1) = 6
            best(5, 2, 0) = 5  best(6, 1, 0) = 5  race(0) = NONE  race(1) = 6  safe(1) = 24
            cast(0, 0) = 0  played(5, 0, 0) = 0  kinds(5, 5, 0, 0) = 0
            chance(0, 3, 0) = 0  chance(1, 3, 1) = 1  drawn(1, 5, 1) = 0  drawn(60, 5, 1) = 15
            count(2) = 1  count(4) = 1  count(6) = 3  stand(0) = 1  man(5, 1) = 8  trace(0) = 12
            """);
    }

    private static void best() {
        edge(22, "BAD; STATE: no TABLE (ahead of BAD), one has WON (behind BAD).", """
            best(1, 0, 0) = STATE  best(0, 0, 0) = STATE  best(7, 0, 0) = STATE  best(1, 3, 0) = STATE  best(1, 0, 2) = STATE
            tell(t4,1;c0,3;c1,3;) = 2
            best(0, 0, 0) = BAD   best(7, 0, 0) = BAD  best(HIGHEST, 0, 0) = BAD  best(LOWEST, 0, 0) = BAD
            best(1, -1, 0) = BAD  best(1, 3, 0) = BAD  best(1, HIGHEST, 0) = BAD  best(1, LOWEST, 0) = BAD
            best(1, 0, -1) = BAD  best(1, 0, 2) = BAD  best(1, 0, HIGHEST) = BAD  best(1, 0, LOWEST) = BAD
            best(1, 0, 0) = 0  best(6, 2, 1) = 108
            play(1) = 0
            best(1, 0, 0) = STATE  best(6, 2, 1) = STATE
            best(0, 0, 0) = BAD  best(7, 0, 0) = BAD  best(1, -1, 0) = BAD  best(1, 3, 0) = BAD  best(1, 0, 2) = BAD
            """);
        edge(22, "BEST: which (what = 0; NONE), WORTH (1; may be below 0).", """
            tell(t6,2;c0,0;r0,1;c1,3;) = 3
            best(2, 0, 0) = 1     best(2, 0, 1) = -4   # a runner goes further
            best(3, 0, 0) = 0     best(3, 0, 1) = -1   # but who HITS is BEST
            best(6, 0, 0) = NONE  best(6, 0, 1) = -7
            play(1) = 0
            best(2, 0, 0) = NONE  best(2, 0, 1) = 6    # of FIRM 1 now: two stand at 1
            best(1, 0, 0) = 2     best(1, 0, 1) = 7
            """);
        edge(22, "by whom its WORTH is greatest, of several the least: which; WORTH; NONE: none CAN (WORTH then as if that TURN went by).", """
            tell(t6,2;c0,0;c0,1;c0,0;c1,5;) = 4
            best(1, 0, 0) = 0  best(1, 0, 1) = -10
            tell(t4,1;p0,0;c1,0;) = 2
            best(1, 0, 0) = NONE  best(1, 0, 1) = -3
            best(1, 1, 0) = NONE  best(1, 1, 1) = -24
            best(1, 2, 0) = NONE  best(1, 2, 1) = -144
            """);
        edge(22, "the greatest WORTH to that one by e 0 behind a move of its, all six together, with the sign changed;", """
            tell(t4,1;c0,0;c1,3;) = 2
            best(1, 0, 1) = 1
            best(1, 1, 0) = 0
            best(1, 1, 1) = -2   # 1: 0, 2: a HIT, 3; 3: 2; 4, 5, 6: -1
            """);
        edge(22, "(If none of it CAN go, the WORTH to it as all stand; it is all the same whether one has WON on the way.)", """
            tell(t4,2;c0,3;c1,0;) = 2
            best(1, 0, 1) = 1  best(1, 1, 1) = 0  best(1, 2, 1) = 0
            tell(t4,1;c0,3;c1,3;) = 2
            best(1, 0, 1) = 4
            best(1, 1, 1) = 18    # FIRM 0 has WON, FIRM 1 goes: 3, 2, 1 PIPS, and by 4 to 6 it CAN not: 4
            best(1, 2, 1) = 108   # FIRM 0 has nobody who CAN go: the same six times
            tell(t4,1;c0,0;) = 1
            best(1, 0, 1) = -3  best(1, 1, 1) = -18  best(6, 0, 0) = NONE
            """);
    }

    private static void race() {
        edge(22, "depth e (0 to 2)", """
            tell(t4,4;c0,3;c1,3;) = 2
            best(1, -1, 1) = BAD
            best(1, 0, 1) = 4
            best(1, 1, 1) = 6    # 3, 2, 1 PIPS of FIRM 1, and by 4 to 6 it is OFF
            best(1, 2, 1) = 36
            best(1, 3, 1) = BAD
            """);
        edge(23, "RACE; NONE. BAD; STATE: no TABLE (ahead of BAD), it has no MEN (behind BAD).", """
            race(0) = STATE  race(-1) = STATE  race(2) = STATE
            tell(t4,1;c0,3;) = 1
            race(-1) = BAD  race(2) = BAD  race(HIGHEST) = BAD  race(LOWEST) = BAD
            race(0) = 1
            race(1) = STATE
            """);
        edge(23, "behind how many TURNS of its own (0 to 60) by RULE with THROWS of 6 it has WON first,", """
            tell(t12,4;c0,11;c1,0;c1,0;) = 3
            race(0) = 1  race(1) = 2
            play(1) = 0
            race(0) = 0  race(1) = 2      # has WON as all stand
            tell(t12,4;o0,12;o0,12;o0,12;o0,12;o0,12;o0,12;o0,12;o0,12;) = 8
            race(0) = 40                  # five TURNS for each
            tell(t12,4;c0,0;) = 1
            race(0) = NONE                # behind one of 6 he would be OFF, and is not at HOME
            tell(t12,4;c0,2;c1,11;) = 2
            race(0) = 2  race(1) = NONE   # 10 less 6 is HOME; 12 less 6 is not
            tell(t12,4;p0,2;p0,2;p1,9;) = 3
            race(0) = 4  race(1) = NONE   # two together; one alone
            """);
        edge(23, "if none of the other one is there; NONE.", """
            tell(t12,4;o0,0;c1,3;c1,3;) = 3
            race(0) = 4                   # their street is no matter
            tell(t12,4;b0,1;c1,7;) = 2
            race(0) = NONE                # a blot who has nobody to hit
            tell(t12,4;c0,3;b1,9;) = 2
            race(1) = NONE  race(0) = 2
            tell(t12,4;c0,12;c1,5;c1,5;) = 3
            race(0) = 3                   # from THE BAR to 5, where two stand now
            """);
    }

    private static void cast() {
        edge(25, "THROWN, ITEMS of a ROW from i on. BAD: ROW; STATE: no TABLE (ahead of BAD), one has WON (behind BAD); NULL; PLACE.", """
            cast(0, 0) = STATE  cast(-1, 0) = STATE  cast(8, 0) = STATE
            tell(t4,1;c0,3;c1,3;) = 2
            fill(0, 0, 99, 3) = 2
            cast(-1, 0) = BAD   cast(8, 0) = BAD   cast(HIGHEST, 0) = BAD  cast(LOWEST, 0) = BAD
            cast(7, 0) = NULL   cast(7, -1) = NULL
            cast(0, -1) = PLACE  cast(0, 1) = PLACE  cast(0, HIGHEST) = PLACE  cast(0, LOWEST) = PLACE
            cast(8, -1) = BAD
            cast(0, 0) = 126
            play(1) = 0
            cast(0, 0) = STATE  cast(7, 0) = STATE  cast(0, 1) = STATE   # ahead of NULL, of PLACE
            cast(-1, 0) = BAD   cast(8, 0) = BAD                         # ahead of STATE
            """);
        edge(25, "(as many ITEMS as MEN)", """
            tell(t12,1;c0,0;c1,1;c1,1;c1,2;c1,2;c1,4;c1,4;c1,5;) = 8
            fill(0, 2, 3, 1, 1, 2, 2, 4, 4, 5) = 8
            cast(0, 0) = 8  cast(0, 1) = PLACE
            fill(0, 2, 3, 1, 1, 2, 2, 4, 4) = 7
            cast(0, 0) = PLACE
            row(0, 2, 0) = 0
            cast(0, 0) = PLACE
            row(0, 2, 40) = 40
            cast(0, 32) = 0  cast(0, 33) = PLACE
            set(0, 32, 3) = 3  set(0, 33, 1) = 1  set(0, 34, 1) = 1  set(0, 35, 2) = 2
            set(0, 36, 2) = 2  set(0, 37, 4) = 4  set(0, 38, 4) = 4  set(0, 39, 5) = 5
            cast(0, 32) = 8
            set(0, 39, 6) = 6
            cast(0, 32) = 0     # the last of all is told, too
            """);
        edge(25, "where he is (POINTS: THE BAR; 99: OFF).", """
            tell(t6,2;c0,5;c1,2;c1,6;) = 3
            fill(0, 0, 99, 2, 6) = 3
            cast(0, 0) = 126
            fill(0, 0, 6, 2, 6) = 3   cast(0, 0) = 0
            fill(0, 0, 7, 2, 6) = 3   cast(0, 0) = 0
            fill(0, 0, 99, 2, 99) = 3  cast(0, 0) = 0
            fill(0, 0, 99, 2, 7) = 3  cast(0, 0) = 0
            fill(0, 2, -1000000, 2, 6) = 3  cast(0, 0) = 0
            lay(0, 0) = 5
            fill(0, 0, 2, 6, 6) = 3   cast(0, 0) = 4   # one is HIT
            """);
        edge(25, "THROWN: THROWS (bits 1 to 6) by which, by RULE, all are so behind the next TURN.", """
            tell(t12,4;o0,0;c0,1;) = 2
            fill(0, 0, 1, 1) = 2  cast(0, 0) = 6
            fill(0, 0, 2, 1) = 2  cast(0, 0) = 24
            fill(0, 0, 3, 1) = 2  cast(0, 0) = 96
            fill(0, 0, 0, 2) = 2  cast(0, 0) = 0       # that is not by RULE
            fill(0, 0, 0, 1) = 2  cast(0, 0) = 0       # as all stand, and one goes
            tell(t6,2;c0,5;c0,0;c1,1;c1,1;) = 4
            fill(0, 0, 5, 0, 1, 1) = 4  cast(0, 0) = 66   # by 1, by 6 none CAN go
            play(1) = NONE
            fill(0, 0, 5, 0, 0, 1) = 4  cast(0, 0) = 0
            fill(0, 0, 5, 6, 0, 1) = 4  cast(0, 0) = 2    # FIRM 1 is to throw
            """);
    }

    private static void played() {
        edge(26, "BAD: THROW, ROW; STATE, NULL, PLACE likewise.", """
            played(1, 0, 0) = STATE  played(0, 0, 0) = STATE  played(7, 0, 0) = STATE  played(1, 8, 0) = STATE  played(1, -1, 0) = STATE
            tell(t4,1;c0,3;c1,3;) = 2
            fill(0, 0, 99, 3) = 2
            played(0, 0, 0) = BAD   played(7, 0, 0) = BAD  played(HIGHEST, 0, 0) = BAD  played(LOWEST, 0, 0) = BAD
            played(1, -1, 0) = BAD  played(1, 8, 0) = BAD  played(1, HIGHEST, 0) = BAD  played(1, LOWEST, 0) = BAD
            played(1, 7, 0) = NULL  played(1, 7, -1) = NULL
            played(1, 0, -1) = PLACE  played(1, 0, 1) = PLACE  played(1, 0, HIGHEST) = PLACE  played(1, 0, LOWEST) = PLACE
            played(7, 7, 0) = BAD  played(1, 8, -1) = BAD
            played(1, 0, 0) = 1  played(6, 0, 0) = 1
            play(1) = 0
            played(1, 0, 0) = STATE  played(1, 7, 0) = STATE  played(1, 0, 1) = STATE   # ahead of NULL, of PLACE
            played(0, 0, 0) = BAD  played(7, 0, 0) = BAD  played(1, 8, 0) = BAD         # ahead of STATE
            """);
        edge(26, "PLAYED: MEN (bits) who might have gone by a THROW told so that all are so.", """
            tell(t12,4;c0,0;c0,1;r0,1;c1,5;c1,3;) = 5
            fill(0, 0, 0, 3, 1, 5, 12) = 5  played(2, 0, 0) = 2   # not by RULE; one is HIT
            played(1, 0, 0) = 0
            fill(0, 0, 0, 1, 3, 5, 12) = 5  played(1, 0, 0) = 4  played(2, 0, 0) = 0
            fill(0, 0, 1, 1, 1, 5, 3) = 5   played(1, 0, 0) = 1
            fill(0, 0, 0, 1, 1, 5, 3) = 5   played(1, 0, 0) = 0   # as all stand
            fill(0, 0, 0, 1, 1, 4, 3) = 5   played(1, 0, 0) = 0   # FIRM 1 is not to throw
            play(6) = 0
            fill(0, 0, 6, 1, 1, 4, 3) = 5   played(1, 0, 0) = 8
            """);
        edge(26, "likewise", """
            tell(t4,1;c0,1;c0,1;c0,1;c0,1;c0,1;c0,1;c0,1;c0,1;) = 8
            row(0, 2, 40) = 40
            set(0, 32, 1) = 1  set(0, 33, 1) = 1  set(0, 34, 1) = 1  set(0, 35, 1) = 1
            set(0, 36, 1) = 1  set(0, 37, 1) = 1  set(0, 38, 1) = 1  set(0, 39, 2) = 2
            played(1, 0, 32) = 128  played(2, 0, 32) = 0  played(1, 0, 33) = PLACE
            row(0, 2, 7) = 7   played(1, 0, 0) = PLACE
            row(0, 2, 0) = 0   played(1, 0, 0) = PLACE
            tell(t4,1;p0,0;c1,3;) = 2
            fill(0, 2, 0, 3) = 2
            played(1, 0, 0) = 0  cast(0, 0) = 126   # none CAN go
            """);
    }

    private static void kinds() {
        edge(27, "BAD: MAN, THROW, ROW; STATE: one has WON (behind BAD); NULL; PLACE.", """
            kinds(0, 1, 0, 0) = BAD
            tell(t4,1;c0,3;c1,3;) = 2
            fill(0, 0, 99, 3) = 2
            kinds(-1, 1, 0, 0) = BAD  kinds(2, 1, 0, 0) = BAD  kinds(HIGHEST, 1, 0, 0) = BAD  kinds(LOWEST, 1, 0, 0) = BAD
            kinds(0, 0, 0, 0) = BAD   kinds(0, 7, 0, 0) = BAD  kinds(0, HIGHEST, 0, 0) = BAD  kinds(0, LOWEST, 0, 0) = BAD
            kinds(0, 1, -1, 0) = BAD  kinds(0, 1, 8, 0) = BAD  kinds(0, 1, HIGHEST, 0) = BAD  kinds(0, 1, LOWEST, 0) = BAD
            kinds(0, 1, 7, 0) = NULL  kinds(0, 1, 7, -1) = NULL
            kinds(0, 1, 0, -1) = PLACE  kinds(0, 1, 0, 1) = PLACE  kinds(0, 1, 0, HIGHEST) = PLACE  kinds(0, 1, 0, LOWEST) = PLACE
            kinds(2, 1, 7, 0) = BAD  kinds(0, 1, 8, -1) = BAD
            kinds(0, 1, 0, 0) = 62   kinds(1, 1, 0, 0) = 62
            play(1) = 0
            kinds(0, 1, 0, 0) = STATE  kinds(0, 1, 7, 0) = STATE  kinds(0, 1, 0, 1) = STATE                 # ahead of NULL, of PLACE
            kinds(2, 1, 0, 0) = BAD  kinds(0, 0, 0, 0) = BAD  kinds(0, 7, 0, 0) = BAD  kinds(0, 1, 8, 0) = BAD  # ahead of STATE
            """);
        edge(27, "KINDS of a MAN (bits 1 to 5) by which, by RULE, by a THROW told, all are so behind it.", """
            tell(t12,4;c0,0;c1,3;) = 2
            fill(0, 0, 3, 12) = 2  kinds(0, 3, 0, 0) = 34   # a clerk; a blot who HITS
            kinds(0, 2, 0, 0) = 4  kinds(0, 5, 0, 0) = 8  kinds(0, 6, 0, 0) = 8  kinds(0, 1, 0, 0) = 0
            fill(0, 0, 0, 3) = 2   kinds(0, 3, 0, 0) = 16   # a partner CAN not go
            kinds(0, 1, 0, 0) = 48
            fill(0, 0, 4, 3) = 2   kinds(0, 4, 0, 0) = 2  kinds(1, 4, 0, 0) = 62   # of the other one any
            kind(0) = 1
            """);
        edge(27, "likewise", """
            tell(t4,1;c0,1;c0,1;c0,1;c0,1;c0,1;c0,1;c0,1;r0,0;) = 8
            row(0, 2, 40) = 40
            set(0, 32, 1) = 1  set(0, 33, 1) = 1  set(0, 34, 1) = 1  set(0, 35, 1) = 1
            set(0, 36, 1) = 1  set(0, 37, 1) = 1  set(0, 38, 1) = 1  set(0, 39, 1) = 1
            kinds(7, 1, 0, 32) = 58  kinds(7, 1, 0, 33) = PLACE
            row(0, 2, 7) = 7   kinds(7, 1, 0, 0) = PLACE
            row(0, 2, 0) = 0   kinds(7, 1, 0, 0) = PLACE
            """);
    }

    private static void chance() {
        edge(28, "CHANCE: above (what = 0), below (1). BAD; STATE: no TABLE (ahead of BAD), it has no MEN (behind BAD).", """
            chance(0, 0, 0) = STATE  chance(-1, 0, 0) = STATE  chance(2, 0, 0) = STATE  chance(0, 4, 0) = STATE  chance(0, 0, 2) = STATE
            tell(t4,1;c0,3;) = 1
            chance(-1, 1, 0) = BAD  chance(2, 1, 0) = BAD  chance(HIGHEST, 1, 0) = BAD  chance(LOWEST, 1, 0) = BAD
            chance(0, -1, 0) = BAD  chance(0, 4, 0) = BAD  chance(0, HIGHEST, 0) = BAD  chance(0, LOWEST, 0) = BAD
            chance(0, 1, -1) = BAD  chance(0, 1, 2) = BAD  chance(0, 1, HIGHEST) = BAD  chance(0, 1, LOWEST) = BAD
            chance(1, 1, 0) = STATE
            chance(1, 4, 0) = BAD  chance(1, 1, 2) = BAD   # ahead of: it has no MEN
            chance(0, 1, 0) = 1  chance(0, 1, 1) = 1
            """);
        edge(28, "how likely it has WON behind n TURNS of its own (0 to 3), by RULE, any THROW as likely,", """
            tell(t6,3;c0,3;c0,4;) = 2
            chance(0, 0, 0) = 0    chance(0, 0, 1) = 1
            chance(0, 1, 0) = 0    chance(0, 1, 1) = 1
            chance(0, 2, 0) = 5    chance(0, 2, 1) = 9    # 4 times 5 of 36
            chance(0, 3, 0) = 199  chance(0, 3, 1) = 216
            tell(t4,1;c0,3;c1,0;) = 2
            play(1) = 0
            chance(0, 0, 0) = 1    chance(0, 0, 1) = 1    # it has WON as all stand
            chance(0, 3, 0) = 1    chance(0, 3, 1) = 1
            chance(1, 0, 0) = 0    chance(1, 0, 1) = 1
            """);
        edge(28, "fractions, told as two numbers in lowest terms (0 is 0 by 1)", """
            tell(t12,1;c0,0;c0,0;) = 2
            chance(0, 0, 0) = 0  chance(0, 0, 1) = 1  chance(0, 3, 0) = 0  chance(0, 3, 1) = 1
            tell(t6,2;c0,4;) = 1
            chance(0, 1, 0) = 5  chance(0, 1, 1) = 6  chance(0, 2, 0) = 1  chance(0, 2, 1) = 1
            tell(t6,2;c0,2;) = 1
            chance(0, 2, 0) = 11  chance(0, 2, 1) = 36  chance(0, 3, 0) = 29  chance(0, 3, 1) = 54   # 116 of 216
            """);
        edge(28, "if none of the other one is there: a fraction.", """
            tell(t6,4;c0,2;c1,4;c1,4;) = 3
            chance(0, 2, 0) = 11  chance(0, 2, 1) = 12   # 33 of 36
            tell(t12,4;b1,9;c0,3;c0,11;) = 3
            chance(1, 3, 0) = 0   chance(1, 3, 1) = 1    # a blot who has nobody to hit
            tell(t12,4;c0,3;b1,9;) = 2
            chance(1, 3, 0) = 0   chance(1, 3, 1) = 1
            tell(t4,1;c0,3;) = 1
            chance(1, 0, 0) = STATE
            """);
    }

    private static void drawn() {
        edge(29, "GAMES by a SEED (1 to 999999): LEAD (what = 0), which are OFF (1). BAD; STATE: no TABLE (ahead of BAD).", """
            drawn(0, 1, 0) = STATE  drawn(-1, 1, 0) = STATE  drawn(61, 1, 0) = STATE  drawn(0, 0, 0) = STATE  drawn(0, 1, 2) = STATE
            tell(t12,4;c0,0;c1,11;) = 2
            drawn(-1, 1, 0) = BAD  drawn(61, 1, 0) = BAD       drawn(HIGHEST, 1, 0) = BAD  drawn(LOWEST, 1, 0) = BAD
            drawn(1, 0, 0) = BAD   drawn(1, 1000000, 0) = BAD  drawn(1, HIGHEST, 0) = BAD  drawn(1, LOWEST, 0) = BAD
            drawn(1, 1, -1) = BAD  drawn(1, 1, 2) = BAD        drawn(1, 1, HIGHEST) = BAD  drawn(1, 1, LOWEST) = BAD
            drawn(0, 1, 0) = 0  drawn(1, 1, 0) = 2  drawn(1, 999999, 0) = 3
            """);
        // 1: 2, 2, 6, 3; 999999: 3, 5, 4, 4; from 127774 on the first product is beyond an int
        edge(29, "ahead of each X becomes the rest of (X times 16807) by 2147483647;", """
            tell(t12,4;c0,0;c1,11;) = 2
            drawn(0, 1, 0) = 0  drawn(1, 1, 0) = 2  drawn(2, 1, 0) = 0  drawn(3, 1, 0) = 6  drawn(4, 1, 0) = 3
            drawn(1, 127773, 0) = 4  drawn(2, 127773, 0) = 0  drawn(3, 127773, 0) = 5   # 4, 4, 5
            drawn(1, 127774, 0) = 4  drawn(2, 127774, 0) = 0  drawn(3, 127774, 0) = 8   # 4, 4, 3: one is HIT
            drawn(0, 999999, 0) = 0  drawn(1, 999999, 0) = 3  drawn(2, 999999, 0) = -2  drawn(3, 999999, 0) = 2  drawn(4, 999999, 0) = -2
            """);
        // below 127774 the rest of X by 6 is that of the SEED
        edge(29, "the THROW is 1 more than the rest of X by 6", """
            tell(t12,4;c0,0;) = 1
            drawn(1, 6, 0) = -11  drawn(1, 1, 0) = -10  drawn(1, 2, 0) = -9
            drawn(1, 3, 0) = -8   drawn(1, 4, 0) = -7   drawn(1, 5, 0) = -6
            """);
        edge(29, "GAMES of n TURNS (0 to 60)", """
            tell(t12,1;c0,0;c1,11;c0,0;c1,11;c0,0;c1,11;c0,0;c1,11;) = 8
            drawn(0, 3, 0) = 0   drawn(0, 3, 1) = 0
            drawn(58, 3, 0) = 1  drawn(58, 3, 1) = 7
            drawn(59, 3, 0) = 2  drawn(59, 3, 1) = 23
            drawn(60, 3, 0) = 1  drawn(60, 3, 1) = 31
            count(2) = 0  count(6) = 0
            """);
        edge(29, "(none, if one has WON): LEAD of FIRM 0 then; which are OFF then (bits).", """
            tell(t6,2;c0,5;c1,0;) = 2
            drawn(0, 1, 0) = 0   drawn(0, 1, 1) = 0
            drawn(1, 1, 0) = 1   drawn(1, 1, 1) = 1
            drawn(2, 1, 0) = 1   drawn(2, 1, 1) = 1
            drawn(60, 1, 0) = 1  drawn(60, 1, 1) = 1
            play(1) = 0
            drawn(0, 1, 1) = 1   drawn(60, 1, 1) = 1   # one has WON as all stand
            tell(t6,2;p0,0;c1,0;) = 2
            drawn(1, 1, 1) = 0   drawn(2, 1, 0) = -6  drawn(2, 1, 1) = 2
            play(1) = NONE
            drawn(1, 1, 1) = 2   # FIRM 1 is to throw
            """);
    }
}
