/** The edges of promises 20 to 22 and of the terms that they name: sees, forget, unseen. */
public final class EdgesOfSeenTest {
    private static final Edges EDGES = new Edges();
    /** Without 0 there is one change, without another none. */
    private static final String THREE = "tell c1;l1 1;t2;t1;t1;";

    public static void main(String[] args) {
        sees();
        seesIsFull();
        forget();
        unseen();
        unseenAtTheEdgesOfN();
        EDGES.end(20, 22);
    }

    private static void sees() {
        for (String steps : new String[] {Edges.NEW, Edges.SMALL, Edges.RICH, Edges.NO_PLAN}) {
            EDGES.bounds(20, "BAD (n 0 .. 6, 9)", steps, "sees(#)", 0, 6, 9);
        }
        EDGES.refused(20, "BAD (n 0 .. 6, 9)",
            Edges.RICH, "sees(7) = BAD", "sees(8) = BAD", "sees(10) = BAD", "sees(-1) = BAD", "sees(NONE) = BAD",
            "sees(MIN) = BAD", "sees(MAX) = BAD");
        EDGES.holds(20, "BAD (n 0 .. 6, 9)",
            "sees(0) = 1 | sees(1) = 2 | sees(2) = 3 | sees(3) = 4",
            "sees(4) = 1 | sees(5) = 2 | sees(6) = 3 | sees(9) = 4");
        EDGES.holds(20, "SEEN: how much there is.",
            "sees(9) = 1 | sees(9) = 2 | sees(9) = 3 | sees(9) = 4 | count(5) = 4",
            "sees(0) = 1 | sees(7) = BAD | sees(0) = 2 | forget() = 2 | sees(0) = 1");
    }

    private static void seesIsFull() {
        EDGES.holds(20, "SEEN (4 at most)",
            "3 times sees(1) | count(5) = 3 | sees(1) = 4 | sees(1) = FULL | count(5) = 4 | forget() = 4"
                + " | sees(1) = 1");
        EDGES.refused(20, "FULL: 4.", "4 times sees(0)", "sees(0) = FULL", "sees(6) = FULL", "sees(9) = FULL");
        EDGES.refused(20, "FULL: 4.",
            Edges.GREAT, "sees(0) = FULL", "sees(2) = FULL", "sees(6) = FULL", "sees(9) = FULL");
        EDGES.refused(20, "FULL: 4.", THREE + " | 4 times sees(1)", "sees(0) = FULL", "sees(9) = FULL");
        EDGES.refused(20, "the first of these: BAD",
            Edges.GREAT, "sees(7) = BAD", "sees(8) = BAD", "sees(10) = BAD", "sees(-1) = BAD", "sees(MIN) = BAD",
            "sees(MAX) = BAD");
    }

    private static void forget() {
        EDGES.holds(21, "Nothing is SEEN: how much was.",
            "forget() = 0 | forget() = 0",
            "sees(0) | forget() = 1 | count(5) = 0 | forget() = 0",
            "4 times sees(9) | forget() = 4 | forget() = 0 | count(5) = 0 | 4 times sees(9) | sees(9) = FULL",
            THREE + " | sees(9) | unseen() = 0 | forget() = 1 | unseen() = 7 | sees(1) = 1 | unseen() = 1");
        EDGES.alike(21, "Nothing is SEEN: how much was.", Edges.NEW, "4 times sees(3) | forget() = 4");
        EDGES.alike(21, "Nothing is SEEN: how much was.", Edges.SMALL, Edges.SMALL + " | forget() = 0");
        EDGES.alike(21, "Nothing is SEEN: how much was.",
            Edges.RICH + " | forget() = 2",
            Edges.RICH + " | 2 times sees(0) | forget() = 4 | forget() = 0");
    }

    private static void unseen() {
        String sentence = "UNSEEN: THINGS (bits) by which all that was SEEN is so.";
        EDGES.holds(22, sentence,
            "unseen() = 0 | sees(9) | unseen() = 0 | sees(0) | unseen() = 0",
            Edges.SMALL + " | unseen() = 1 | sees(9) | unseen() = 1 | sees(9) | unseen() = 1 | sees(0)"
                + " | unseen() = 0",
            "tell t9;t9;t9;t9;t9;t9; | unseen() = 63",
            THREE + " | unseen() = 7 | sees(0) | unseen() = 6 | sees(0) | unseen() = 6 | sees(0) | unseen() = 6"
                + " | sees(1) | unseen() = 0",
            THREE + " | 4 times sees(1) | unseen() = 1 | sees(0) = FULL | unseen() = 1",
            THREE + " | sees(1) | sees(0) | unseen() = 0",
            THREE + " | 3 times sees(0) | sees(9) | unseen() = 0");
        EDGES.holds(22, "(As things are NOW; nothing is changed.)",
            THREE + " | sees(1) | unseen() = 1 | lends(1, 0, 1) | unseen() = 0 | sees(9) | unseen() = 0 | undo()"
                + " | forget() | sees(0) | unseen() = 6 | lends(0, 0, 0) | unseen() = 0 | rules(1) | unseen() = 6");
        EDGES.alike(22, "(As things are NOW; nothing is changed.)",
            Edges.RICH,
            Edges.RICH + " | unseen() = 5 | unseen() = 5");
    }

    private static void unseenAtTheEdgesOfN() {
        String none = "(0 .. 6; 9: there is no PLAN)";
        EDGES.holds(22, none,
            "tell c1;l0;t0;t0; | sees(9) | unseen() = 0 | forget() | sees(0) | unseen() = 3",
            "tell c1;l0;t0; | sees(0) | unseen() = 0 | forget() | sees(9) | unseen() = 1",
            Edges.NO_PLAN + " | unseen() = 3 | forget() | sees(0) | unseen() = 0",
            "tell l1;t1;t1;t0; | sees(9) | unseen() = 3 | sees(9) | unseen() = 3 | forget() | sees(0) | unseen() = 4");
        EDGES.holds(22, none,
            "tell l1 1 1 1;t9;t9;t9;t9;t9;t9; | sets(0, 0, 0) | sets(1, 0, 1) | sets(2, 0, 0) | sets(3, 0, 1)"
                + " | sets(0, 1, 2) | sets(1, 1, 3) | sets(2, 1, 2) | sees(5) | unseen() = 48 | sets(3, 1, 3)"
                + " | unseen() = 0 | forget() | sees(6) | unseen() = 48 | forget() | sees(9) | unseen() = 15");
        EDGES.holds(22, none, "tell l3 1 1 2;t3;t7;t8;t1;t1;t5;x0 1;x1 4;x4 5;a0 3 3; | sees(5) | unseen() = 4");
    }
}
