/** Edges of section 3's KINDS and section 4's ASKS: promises 32 to 35. */
public final class AskEdgesTest extends Edges {
    public static void main(String[] args) {
        kind();
        as();
        ask();
        trace();
        end(32, 33, 34, 35);
    }

    private static void kind() {
        edge(32, "The KIND of a MAN, as told (1 to 5). BAD.", """
            kind(0) = BAD
            tell(t4,1;c0,0;r1,1;o0,2;p1,3;b0,4;) = 5
            kind(-1) = BAD  kind(5) = BAD  kind(HIGHEST) = BAD  kind(LOWEST) = BAD
            kind(0) = 1  kind(1) = 2  kind(2) = 3  kind(3) = 4  kind(4) = 5
            tell(t4,1;b0,0;b0,0;b0,0;b0,0;b0,0;b0,0;b0,0;c0,0;) = 8
            kind(7) = 1  kind(8) = BAD
            """);
    }

    private static void as() {
        edge(33, "A MAN is taken as one of a KIND (0 .. 5): the MAN's number. BAD; KIND: it is no such one.", """
            as(0, 0) = BAD
            tell(t4,1;c0,0;r0,0;o0,0;p0,0;b0,0;) = 5
            as(-1, 0) = BAD  as(5, 0) = BAD  as(HIGHEST, 0) = BAD  as(LOWEST, 0) = BAD
            as(0, -1) = BAD  as(0, 6) = BAD  as(0, HIGHEST) = BAD  as(0, LOWEST) = BAD
            as(5, 6) = BAD   as(3, 6) = BAD  as(3, -1) = BAD   # ahead of KIND
            as(4, 0) = 4     as(4, 1) = KIND  as(4, 5) = 4
            """);
        edge(33, "0 MAN; 1 CLERK, a MAN; 2 RUNNER, a CLERK; 3 OLD, a CLERK; 4 PARTNER, a MAN; 5 BLOT, a PARTNER.", """
            tell(t4,1;c0,0;r0,0;o0,0;p0,0;b0,0;) = 5
            as(0, 0) = 0  as(0, 1) = 0     as(0, 2) = KIND  as(0, 3) = KIND  as(0, 4) = KIND  as(0, 5) = KIND
            as(1, 0) = 1  as(1, 1) = 1     as(1, 2) = 1     as(1, 3) = KIND  as(1, 4) = KIND  as(1, 5) = KIND
            as(2, 0) = 2  as(2, 1) = 2     as(2, 2) = KIND  as(2, 3) = 2     as(2, 4) = KIND  as(2, 5) = KIND
            as(3, 0) = 3  as(3, 1) = KIND  as(3, 2) = KIND  as(3, 3) = KIND  as(3, 4) = 3     as(3, 5) = KIND
            as(4, 0) = 4  as(4, 1) = KIND  as(4, 2) = KIND  as(4, 3) = KIND  as(4, 4) = 4     as(4, 5) = 4
            """);
        edge(33, "3 KIND (a MAN that is not that)", """
            tell(t4,1;p1,4;) = 1
            as(0, 5) = KIND  status() = 3
            as(0, 4) = 0     status() = 0
            as(0, 1) = KIND  kind(0) = 4
            """);
    }

    private static void ask() {
        edge(34, "An ASK (0, 1) of a MAN. BAD. THE TRACE is empty ahead of it (where that is refused it stays).", """
            ask(0, 0) = BAD
            trace(0) = NONE
            tell(t4,1;p0,0;) = 1
            ask(-1, 0) = BAD  ask(1, 0) = BAD  ask(HIGHEST, 0) = BAD  ask(LOWEST, 0) = BAD
            ask(0, -1) = BAD  ask(0, 2) = BAD  ask(0, HIGHEST) = BAD  ask(0, LOWEST) = BAD
            trace(0) = NONE
            ask(0, 1) = 96    # 0 less 4 less 100
            trace(0) = 23  trace(1) = 20  trace(2) = 13  trace(3) = 10  trace(4) = NONE
            ask(0, 2) = BAD  ask(1, 0) = BAD
            trace(0) = 23  trace(3) = 10
            ask(0, 0) = -96
            trace(0) = 13  trace(1) = 10  trace(2) = NONE  trace(3) = NONE
            """);
        edge(34, "10 lent to all MEN: PIPS. 11 of CLERKS: what 10 gives, and MARK.", """
            tell(t12,4;c0,0;c1,0;c0,12;c0,11;) = 4
            ask(0, 0) = 13   # 12, and 0 and 1
            trace(0) = 11  trace(1) = 10  trace(2) = 21  trace(3) = 20  trace(4) = NONE
            ask(0, 1) = 1
            trace(0) = 21  trace(1) = 20  trace(2) = NONE
            ask(1, 0) = 3    ask(1, 1) = 2
            ask(2, 0) = 16   ask(2, 1) = 3
            ask(3, 0) = 5    ask(3, 1) = 4
            """);
        edge(34, "12 of RUNNERS: 0 less what 11 gives.", """
            tell(t12,4;c0,0;r0,1;) = 2
            ask(1, 0) = -15   # 11, and twice 1 and 1
            trace(0) = 12  trace(1) = 11  trace(2) = 10  trace(3) = 24  trace(4) = 21  trace(5) = 20  trace(6) = NONE
            ask(1, 1) = 4
            trace(0) = 24  trace(1) = 21  trace(2) = 20  trace(3) = NONE
            """);
        edge(34, "13 of PARTNERS: what 10 gives, less 100. 14 of BLOTS: twice what 13 gives (asked once).", """
            tell(t12,4;p0,0;b0,12;) = 2
            ask(0, 0) = -88
            trace(0) = 13  trace(1) = 10  trace(2) = NONE
            ask(1, 0) = -174
            trace(0) = 14  trace(1) = 13  trace(2) = 10  trace(3) = NONE
            """);
        edge(34, "21 of CLERKS: what 20 gives, and the CUBE. 22 of OLD ones: what 21 gives, less 1000.", """
            tell(t12,4;o0,11;c0,0;) = 2
            ask(0, 0) = -998
            trace(0) = 11  trace(1) = 10  trace(2) = 22  trace(3) = 21  trace(4) = 20  trace(5) = NONE
            ask(0, 1) = -999
            trace(0) = 22  trace(1) = 21  trace(2) = 20  trace(3) = NONE
            play(1) = 1  twice() = 2
            ask(0, 1) = -998  ask(1, 1) = 3
            """);
        edge(34, "23 of PARTNERS: what 20 gives, less SIZE. 24 of RUNNERS: twice what 21 gives (asked once).", """
            tell(t12,4;p0,0;b0,0;r0,0;) = 3
            ask(0, 1) = 88
            trace(0) = 23  trace(1) = 20  trace(2) = 13  trace(3) = 10  trace(4) = NONE
            ask(1, 1) = 177   # by the BODY of PARTNERS, with the SIZE of a BLOT
            trace(0) = 23  trace(1) = 20  trace(2) = 14  trace(3) = 13  trace(4) = 10  trace(5) = NONE
            ask(2, 1) = 6
            """);
        edge(34, "else that of the nearest KIND that it is, too, else the one that is lent;", """
            tell(t4,1;c0,0;r0,0;o0,0;p0,0;b0,0;) = 5
            ask(2, 0) = -993  trace(0) = 11   # an old one has no SIZE of his own: that of CLERKS
            ask(4, 1) = 196   trace(0) = 23   # a blot has no MARK of his own: that of PARTNERS
            """);
        edge(34, "SIZE, MARK within others are asked of the same MAN anew.", """
            tell(t4,1;r0,3;o0,3;b0,3;) = 3
            ask(0, 0) = -3    trace(3) = 24   # MARK of a RUNNER within 11 of CLERKS
            ask(1, 0) = -997  trace(2) = 22   # MARK of an OLD one
            ask(2, 1) = 200   trace(2) = 14   # SIZE of a BLOT within 23 of PARTNERS
            """);
        edge(34, "1 MARK: 20 lent to all MEN: the number.", """
            tell(t4,1;c0,0;c0,0;c0,0;c0,0;c0,0;c0,0;c0,0;p1,0;) = 8
            ask(0, 1) = 1  ask(6, 1) = 7  ask(7, 1) = 106
            """);
        edge(34, "10 lent to all MEN: PIPS", """
            tell(t4,1;c0,3;r0,3;p0,3;c1,0;) = 4
            play(1) = 0  play(4) = 3
            ask(0, 0) = 1     # OFF: 0, and 0 and 1
            ask(3, 0) = 4
            lay(1, 4) = 3
            ask(1, 0) = -9    # THE BAR: 5, and twice 1 and 1
            ask(2, 0) = -99
            """);
    }

    private static void trace() {
        edge(35, "Number i of THE TRACE; NONE.", """
            trace(0) = NONE  trace(-1) = NONE  trace(15) = NONE  trace(16) = NONE  trace(HIGHEST) = NONE  trace(LOWEST) = NONE
            tell(t4,1;c0,0;r0,1;) = 2
            trace(0) = NONE
            ask(1, 0) = -7
            trace(-1) = NONE  trace(0) = 12  trace(5) = 20  trace(6) = NONE  trace(15) = NONE  trace(16) = NONE
            trace(HIGHEST) = NONE  trace(LOWEST) = NONE
            ask(0, 1) = 1
            trace(0) = 21  trace(1) = 20  trace(2) = NONE  trace(5) = NONE
            tell(t4,1;c0,0;) = 1
            trace(0) = 21     # of the latest ask, whatever is read
            """);
        edge(35, "each of which leaves its number in THE TRACE as it begins (the first 16)", """
            tell(t4,1;r0,0;) = 1
            ask(0, 0) = -6  ask(0, 0) = -6  ask(0, 0) = -6   # 18 numbers, if it were not empty ahead of each
            trace(0) = 12  trace(1) = 11  trace(2) = 10  trace(3) = 24  trace(4) = 21  trace(5) = 20  trace(6) = NONE
            """);
    }
}
