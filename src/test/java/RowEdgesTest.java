/** Edges of section 1's ROWS: promises 1 to 5 and 37, and what the document says of all refusals and findings. */
public final class RowEdgesTest extends Edges {
    public static void main(String[] args) {
        newObjects();
        rows();
        sets();
        copies();
        drops();
        statuses();
        end(1, 2, 3, 4, 5, 37);
    }

    private static void newObjects() {
        edge(1, "`TableFirms()`: No TABLE.", """
            count(1) = 0  count(2) = 0  count(3) = 0  count(4) = 0  count(5) = 0
            stand(0) = STATE  stand(1) = STATE  stand(2) = STATE  stand(3) = STATE  stand(4) = STATE  stand(5) = STATE
            play(1) = STATE  twice() = STATE  may(1) = STATE  enter(0) = STATE  pips(0, 0) = STATE  best(1, 0, 0) = STATE
            race(0) = STATE  safe(0) = STATE  chance(0, 0, 0) = STATE  drawn(0, 1, 0) = STATE  image(0) = STATE
            move(0, 1) = BAD  lay(0, 0) = BAD  man(0, 0) = BAD  on(0, 0) = BAD  whither(0, 1) = BAD  shots(0) = BAD
            kind(0) = BAD  as(0, 0) = BAD  ask(0, 0) = BAD
            row(0, 0, 1) = 1  cast(0, 0) = STATE  played(1, 0, 0) = STATE  kinds(0, 1, 0, 0) = BAD
            """);
        edge(1, "ROWS 0 .. 7 are missing (at first)", """
            count(0) = 0
            drop(0) = NULL  drop(1) = NULL  drop(2) = NULL  drop(3) = NULL
            drop(4) = NULL  drop(5) = NULL  drop(6) = NULL  drop(7) = NULL
            """);
        edge(1, "A TABLE that is read stands in place of the one before (none at first)", """
            restore(0) = STATE  restore(1) = STATE  undo() = STATE  count(6) = 0  count(7) = 0
            """);
    }

    private static void rows() {
        edge(2, "BAD: ROW, LANE, n above 40; SIZE.", """
            row(-1, 0, 1) = BAD  row(8, 0, 1) = BAD  row(HIGHEST, 0, 1) = BAD  row(LOWEST, 0, 1) = BAD
            row(0, -1, 1) = BAD  row(0, 3, 1) = BAD  row(0, HIGHEST, 1) = BAD  row(0, LOWEST, 1) = BAD
            row(0, 0, 41) = BAD  row(0, 0, HIGHEST) = BAD
            row(0, 0, -1) = SIZE  row(0, 0, LOWEST) = SIZE
            count(0) = 0
            row(0, 0, 0) = 0  row(7, 2, 40) = 40
            count(0) = 2
            """);
        edge(2, "the first of these that fits, but as told: BAD (a number is not as told; there is no such thing)", """
            row(8, 0, -1) = BAD  row(-1, 0, -1) = BAD  row(0, 3, -1) = BAD  row(0, -1, -1) = BAD
            """);
        edge(2, "A ROW of a LANE with n ITEMS, in place of what is there: n.", """
            fill(3, 2, 5, 5, 5, 5) = 4
            row(3, 0, 2) = 2
            count(0) = 1
            set(3, 1, 128) = -128
            set(3, 2, 0) = PLACE
            drop(3) = 2
            """);
        edge(2, "What is refused, or found, changes nothing but status().", """
            fill(3, 2, 1, 2, 3, 4) = 4
            row(3, 3, 2) = BAD  row(3, 0, 41) = BAD  row(3, 0, -1) = SIZE
            status() = 4
            set(3, 3, 40000) = 40000
            drop(3) = 4
            """);
        // by 1 the clerk comes from the bar to 0
        edge(2, "and 0 to 40 ITEMS, 0 at first.", """
            tell(t4,1;c0,4;) = 1
            fill(0, 2, 3, 3) = 2
            row(0, 2, 40) = 40
            cast(0, 0) = 2  cast(0, 1) = 2  cast(0, 39) = 2  cast(0, 40) = PLACE
            row(0, 2, 0) = 0
            cast(0, 0) = PLACE
            """);
        edge(2, "SIZE (fewer than none)", """
            row(0, 2, 0) = 0  status() = 0
            row(0, 2, -1) = SIZE  status() = 4
            drop(0) = 0
            """);
    }

    private static void sets() {
        edge(3, "ITEM i becomes v, its lowest bits, as many as the LANE has (read with their sign): what it is then.", """
            row(0, 0, 1) = 1
            set(0, 0, 0) = 0  set(0, 0, 127) = 127  set(0, 0, 128) = -128  set(0, 0, 255) = -1  set(0, 0, 256) = 0
            set(0, 0, -128) = -128  set(0, 0, -129) = 127  set(0, 0, -256) = 0  set(0, 0, -257) = -1
            set(0, 0, HIGHEST) = -1  set(0, 0, LOWEST) = 0  set(0, 0, 32768) = 0
            """);
        edge(3, "(0 bytes, 1 shorts, 2 ints)", """
            row(1, 1, 1) = 1
            set(1, 0, 32767) = 32767  set(1, 0, 32768) = -32768  set(1, 0, 65535) = -1  set(1, 0, 65536) = 0
            set(1, 0, -32768) = -32768  set(1, 0, -32769) = 32767  set(1, 0, -65537) = -1
            set(1, 0, HIGHEST) = -1  set(1, 0, LOWEST) = 0  set(1, 0, 128) = 128
            row(2, 2, 1) = 1
            set(2, 0, HIGHEST) = 2147483647  set(2, 0, LOWEST) = -2147483648  set(2, 0, 65536) = 65536  set(2, 0, -1) = -1
            """);
        // 258 is 2 by its lowest bits, where the clerk comes by 3; to 258 none comes
        edge(3, "what it is then", """
            tell(t4,1;c0,4;) = 1
            row(0, 0, 1) = 1  row(1, 1, 1) = 1
            set(0, 0, 258) = 2  set(1, 0, 258) = 258
            cast(0, 0) = 8  cast(1, 0) = 0
            """);
        edge(3, "becomes v", """
            row(2, 2, 1) = 1
            set(2, 0, 9) = 9
            set(2, 0, -1000001) = -1000001
            status() = 0
            set(2, 0, -1000012) = -1000012
            status() = 0
            """);
        edge(3, "BAD: ROW; NULL; PLACE.", """
            set(-1, 0, 0) = BAD  set(8, 0, 0) = BAD  set(HIGHEST, 0, 0) = BAD  set(LOWEST, 0, 0) = BAD
            set(0, 0, 0) = NULL  set(7, 0, 0) = NULL
            fill(0, 0, 1, 2, 3) = 3
            set(0, -1, 5) = PLACE  set(0, 3, 5) = PLACE  set(0, HIGHEST, 5) = PLACE  set(0, LOWEST, 5) = PLACE
            set(0, 0, 5) = 5  set(0, 2, 5) = 5
            set(8, -1, 0) = BAD   # ahead of PLACE
            set(1, -1, 0) = NULL  # ahead of PLACE
            """);
        edge(3, "PLACE (no such place of a ROW)", """
            row(0, 2, 0) = 0  set(0, 0, 1) = PLACE  set(0, -1, 1) = PLACE
            row(0, 2, 1) = 1  set(0, 0, 1) = 1  set(0, 1, 1) = PLACE
            row(0, 2, 40) = 40  set(0, 39, 1) = 1  set(0, 40, 1) = PLACE
            row(7, 2, 40) = 40  set(7, 39, 1) = 1  set(7, 40, 1) = PLACE
            """);
    }

    private static void copies() {
        edge(4, "BAD: ROWS; NULL; STORE; PLACE (i, j, n below 0, or beyond an end).", """
            copy(-1, 0, 0, 0, 0) = BAD  copy(8, 0, 0, 0, 0) = BAD  copy(0, 0, -1, 0, 0) = BAD  copy(0, 0, 8, 0, 0) = BAD
            copy(HIGHEST, 0, 0, 0, 0) = BAD  copy(0, 0, LOWEST, 0, 0) = BAD
            copy(0, 0, 0, 0, 0) = NULL
            fill(0, 0, 1, 2, 3) = 3
            copy(0, 0, 7, 0, 0) = NULL  copy(7, 0, 0, 0, 0) = NULL
            fill(7, 1, 1, 2, 3) = 3
            copy(0, 0, 7, 0, 0) = STORE  copy(7, 0, 0, 0, 0) = STORE
            fill(6, 0, 4, 5) = 2
            copy(0, -1, 6, 0, 1) = PLACE  copy(0, 0, 6, -1, 1) = PLACE  copy(0, 0, 6, 0, -1) = PLACE
            copy(0, 0, 6, 0, 3) = PLACE  copy(6, 0, 0, 0, 3) = PLACE
            copy(0, 3, 6, 0, 1) = PLACE  copy(0, 0, 6, 2, 1) = PLACE
            copy(0, 2, 6, 0, 2) = PLACE  copy(0, 0, 6, 1, 2) = PLACE
            copy(0, 1, 6, 0, 2) = 2  copy(0, 2, 6, 1, 1) = 1
            """);
        edge(4, "FINDINGS, of several the first in time", """
            row(0, 0, 3) = 3  row(1, 1, 3) = 3
            copy(8, -1, 9, -1, -1) = BAD   # ahead of all
            copy(8, 0, 2, 0, 0) = BAD      # ahead of NULL
            copy(0, 0, 8, -1, 0) = BAD     # ahead of PLACE
            copy(2, -1, 1, 0, 0) = NULL    # ahead of PLACE
            copy(0, 0, 2, 9, 0) = NULL
            copy(0, -1, 1, 0, 0) = STORE   # ahead of PLACE
            copy(1, 0, 0, 0, 4) = STORE
            """);
        edge(4, "or beyond an end", """
            fill(0, 2, 1, 2, 3) = 3
            fill(1, 2, 4, 5, 0) = 3
            copy(0, 3, 1, 3, 0) = 0   # none, at the ends
            copy(0, 4, 1, 3, 0) = PLACE  copy(0, 3, 1, 4, 0) = PLACE
            copy(0, HIGHEST, 1, 0, 1) = PLACE  copy(0, 0, 1, HIGHEST, 1) = PLACE  copy(0, 0, 1, 0, HIGHEST) = PLACE
            copy(0, 1, 1, 0, HIGHEST) = PLACE  copy(0, 0, 1, 1, HIGHEST) = PLACE
            copy(0, HIGHEST, 1, HIGHEST, HIGHEST) = PLACE
            copy(0, LOWEST, 1, 0, 0) = PLACE  copy(0, 0, 1, LOWEST, 0) = PLACE  copy(0, 0, 1, 0, LOWEST) = PLACE
            copy(0, LOWEST, 1, 0, LOWEST) = PLACE
            """);
        edge(4, "n ITEMS of a from i on come to b from j on", """
            row(0, 1, 0) = 0  row(1, 1, 0) = 0
            copy(0, 0, 1, 0, 0) = 0  copy(0, 0, 0, 0, 0) = 0   # empty rows
            copy(0, 0, 1, 0, 1) = PLACE
            row(0, 1, 40) = 40  row(1, 1, 40) = 40             # full ones
            copy(0, 0, 1, 0, 40) = 40  copy(0, 39, 1, 39, 1) = 1  copy(0, 40, 1, 40, 0) = 0
            copy(0, 0, 1, 0, 41) = PLACE  copy(0, 1, 1, 0, 40) = PLACE  copy(0, 0, 1, 1, 40) = PLACE
            """);
        // FIRM 0 has nobody: THROWN tells all throws of a row in which all are where they stand, at 1, 2, 3
        edge(4, "as they were ahead: n.", """
            tell(t12,4;c1,1;c1,2;c1,3;) = 3
            fill(0, 0, 1, 2, 3, 9, 9) = 5
            copy(0, 0, 0, 2, 3) = 3   # 1, 2, 1, 2, 3
            cast(0, 2) = 126  cast(0, 0) = 0
            copy(0, 2, 0, 1, 3) = 3   # 1, 1, 2, 3, 3
            cast(0, 1) = 126  cast(0, 2) = 0
            copy(0, 1, 0, 1, 3) = 3   # on the same place
            cast(0, 1) = 126
            """);
        edge(4, "come to b from j on", """
            tell(t12,4;c1,1;c1,2;c1,3;) = 3
            fill(0, 0, 7, 1, 2, 3) = 4
            fill(1, 0, 1, 9, 9, 9) = 4
            copy(0, 2, 1, 1, 2) = 2
            cast(1, 0) = 126   # b
            cast(0, 1) = 126   # a stays
            """);
    }

    private static void drops() {
        edge(5, "A ROW is missing from now on: how many ITEMS it had. BAD; NULL.", """
            drop(-1) = BAD  drop(8) = BAD  drop(HIGHEST) = BAD  drop(LOWEST) = BAD
            drop(0) = NULL  drop(7) = NULL
            row(0, 0, 0) = 0  row(7, 2, 40) = 40
            count(0) = 2
            drop(0) = 0  drop(7) = 40
            count(0) = 0
            drop(0) = NULL  drop(7) = NULL
            set(7, 0, 0) = NULL  copy(7, 0, 7, 0, 0) = NULL
            """);
        edge(5, "NULL (a ROW that is missing)", """
            tell(t4,1;c0,4;) = 1
            fill(0, 0, 2) = 1
            cast(0, 0) = 8
            drop(0) = 1
            cast(0, 0) = NULL
            row(0, 0, 1) = 1
            cast(0, 0) = 2   # 0 anew
            """);
    }

    private static void statuses() {
        edge(37, "0: it had none, or there was none.", """
            status() = 0
            feed(99) = 1  table() = fault@0  status() = 0
            row(0, 0, 1) = 1  status() = 0
            """);
        edge(37, "Of the latest call with a ROW, or as(), that was not BAD, STATE, FULL: the number of its FINDING", """
            drop(0) = NULL              status() = 1
            row(0, 0, 3) = 3            status() = 0
            set(0, 3, 0) = PLACE        status() = 2
            set(0, 2, 0) = 0            status() = 0
            row(1, 1, -1) = SIZE        status() = 4
            row(1, 1, 3) = 3            status() = 0
            copy(0, 0, 1, 0, 1) = STORE status() = 5
            copy(0, 0, 0, 0, 1) = 1     status() = 0
            tell(t4,1;c0,3;) = 1
            as(0, 2) = KIND             status() = 3
            as(0, 1) = 0                status() = 0
            cast(2, 0) = NULL           status() = 1
            cast(0, 0) = 0              status() = 0
            played(1, 0, 3) = PLACE     status() = 2
            played(1, 0, 0) = 0         status() = 0
            kinds(0, 1, 2, 0) = NULL    status() = 1
            kinds(0, 1, 0, 0) = 0       status() = 0
            drop(2) = NULL              status() = 1
            drop(0) = 3                 status() = 0
            """);
        edge(37, "that was not BAD, STATE, FULL", """
            cast(0, 0) = STATE  status() = 0
            set(0, 0, 0) = NULL
            row(8, 0, 0) = BAD  set(8, 0, 0) = BAD  copy(0, 0, 8, 0, 0) = BAD  drop(8) = BAD
            cast(0, 0) = STATE  played(1, 0, 0) = STATE  kinds(0, 1, 0, 0) = BAD  as(0, 0) = BAD
            status() = 1
            tell(t4,1;c0,3;) = 1
            as(0, 2) = KIND
            as(0, 6) = BAD  cast(8, 0) = BAD  played(7, 0, 0) = BAD  kinds(0, 1, 8, 0) = BAD
            play(1) = 0  cast(0, 0) = STATE  played(1, 0, 0) = STATE  kinds(0, 1, 0, 0) = STATE
            feeds(90, 0) = 90  feed(0) = FULL
            status() = 3
            """);
        edge(37, "or as()", """
            tell(t4,1;p0,0;) = 1
            as(0, 5) = KIND
            play(1) = NONE  undo() = 0  undo() = STATE  lay(0, 0) = STATE  man(0, 4) = BAD  ask(0, 0) = -96  image(0) = 1
            restore(1) = STATE  fault() = 0  count(8) = BAD  trace(99) = NONE
            status() = 3
            """);
    }
}
