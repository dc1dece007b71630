/** The edges of promises 23 to 25 and of the terms that they name: keep, back, count. */
public final class EdgesOfImagesTest {
    private static final Edges EDGES = new Edges();
    private static final String THERE = "BAD (a number is not as told, or there is no such thing)";
    private static final String[] ALL = {Edges.NEW, Edges.SMALL, Edges.RICH, Edges.GREAT, Edges.NO_PLAN};
    private static final String SIX = "tell t9;t9;t9;t9;t9;t9;";

    public static void main(String[] args) {
        keep();
        backRefuses();
        back();
        nothingElse();
        undoneBehindBack();
        countRefuses();
        count();
        EDGES.end(23, 25);
    }

    private static void keep() {
        for (String steps : ALL) {
            EDGES.bounds(23, THERE, steps, "keep(#)", 0, 1);
        }
        EDGES.holds(23, "An IMAGE is kept: THINGS.",
            "keep(0) = 0 | keep(1) = 0",
            Edges.SMALL + " | keep(0) = 1",
            Edges.RICH + " | keep(1) = 4",
            Edges.GREAT + " | keep(0) = 6 | keep(1) = 6 | keep(0) = 6");
        EDGES.holds(23, "An IMAGE is kept: THINGS.",
            "keep(0) | rules(0) | keep(0) | rules(1) | back(0) = 0 | count(3) = 14",
            "keep(0) | rules(0) | keep(1) | rules(1) | back(0) | count(3) = 15 | back(1) | count(3) = 14 | keep(0)"
                + " | rules(2) | back(0) | count(3) = 14");
        EDGES.alike(23, "An IMAGE is kept: THINGS.", Edges.RICH + " | keep(0)", Edges.RICH + " | keep(0) | keep(0)");
        EDGES.holds(23, "IMAGES 0, 1 keep",
            "9 times rules(0) | keep(0) = 0 | count(7) = 9 | keep(1) | undo() = 8 | count(3) = 15",
            SIX + " | sets(0, 0, 1) | keep(0) | keep(1) | count(7) = 1 | down(0, 0) = 1 | undo() = 0"
                + " | down(0, 0) = NONE");
    }

    private static void backRefuses() {
        for (String steps : ALL) {
            EDGES.bounds(24, THERE, steps, "back(#)", 0, 1);
        }
        EDGES.refused(24, "STATE: none was kept.", Edges.NEW, "back(0) = STATE", "back(1) = STATE");
        EDGES.refused(24, "STATE: none was kept.", Edges.NO_PLAN, "back(1) = STATE");
        EDGES.refused(24, "STATE: none was kept.", "rules(0) | keep(1) | rules(1)", "back(0) = STATE");
        EDGES.refused(24, "STATE: none was kept.",
            SIX + " | sets(0, 0, 1) | rules(2) | sees(2) | write t1;", "back(0) = STATE", "back(1) = STATE");
        EDGES.refused(24, "IMAGES are gone",
            Edges.RICH + " | house() = 6 | rules(1)", "back(0) = STATE", "back(1) = STATE");
        EDGES.refused(24, "the first of these: BAD",
            Edges.NEW, "back(2) = BAD", "back(-1) = BAD", "back(MIN) = BAD", "back(MAX) = BAD");
    }

    private static void back() {
        String all = "All of that becomes as an IMAGE has it: THINGS.";
        EDGES.holds(24, all,
            "keep(0) | back(0) = 0 | back(0) = 0",
            Edges.SMALL + " | keep(1) | back(1) = 1",
            Edges.RICH + " | back(0) = 4 | back(1) = 4",
            Edges.GREAT + " | back(0) = 6 | back(1) = 6");
        EDGES.holds(24, "keep what is SET DOWN, LOANS, pairs, RULES",
            SIX + " | keep(0) | sets(0, 0, 5) | sets(3, 1, 0) | lends(0, 0, 3) | lends(5, 3, 3) | pairs(0, 5)"
                + " | pairs(4, 5) | rules(0) | rules(3) | keep(1) | back(0) = 6 | down(0, 0) = NONE"
                + " | down(3, 1) = NONE | thing(0, 1) = NONE | thing(5, 2) = NONE | count(4) = 0 | thing(5, 3) = 0"
                + " | count(3) = 15 | back(1) = 6 | down(0, 0) = 5 | down(3, 1) = 0 | thing(0, 1) = 0"
                + " | thing(0, 2) = 3 | thing(5, 1) = 3 | thing(5, 2) = 3 | thing(0, 3) = 32 | thing(4, 3) = 32"
                + " | thing(5, 3) = 17 | count(4) = 2 | count(3) = 6");
        String full = SIX + " | keep(0) | sets(0, 0, 5) | lends(2, 0, 0) | pairs(3, 4) | rules(1)";
        EDGES.alike(24, all, full + " | back(0)", SIX + " | keep(0)");
        EDGES.alike(24, all, full + " | keep(1) | back(0) | sets(1, 1, 1) | back(1)", full + " | keep(1) | back(1)");
        EDGES.alike(24, all, full + " | back(0) | back(0)", full + " | back(0)");
        EDGES.holds(24, all,
            "tell c1;l1;t9;t9; | keep(0) | sets(0, 0, 1) | the plan = 1 | back(0) | the plan = 0 | dearth(0) = 0");
    }

    private static void nothingElse() {
        EDGES.holds(24, "nothing else (nothing can be UNDONE behind back())",
            SIX + " | keep(0) | 4 times sees(2) | write t1; | rules(0) | keep(1) | back(0) | count(5) = 4"
                + " | count(6) = 3 | back(1) = 6 | count(3) = 14 | count(5) = 4 | house() = 1 | count(0) = 1",
            "sees(1) | keep(0) | forget() | back(0) | count(5) = 0",
            "write t1 | keep(0) | clear() | back(0) | count(6) = 0",
            "write t1 | keep(0) | write ; | back(0) | house() = 1");
        EDGES.alike(24, "nothing else", Edges.SMALL + " | keep(0) | back(0)", Edges.SMALL + " | keep(0)");
        EDGES.alike(24, "nothing else", "keep(0) | sees(3) | write t7; | back(0)", "sees(3) | write t7; | keep(0)");
    }

    private static void undoneBehindBack() {
        EDGES.holds(24, "(nothing can be UNDONE behind back())",
            "keep(0) | 12 times rules(1) | count(7) = 10 | back(0) | count(7) = 0 | undo() = STATE | count(3) = 15"
                + " | rules(2) | count(7) = 1 | undo() = 0 | undo() = STATE | count(3) = 15",
            "rules(1) | keep(0) | back(0) | undo() = STATE | count(3) = 13",
            "rules(1) | back(0) = STATE | back(2) = BAD | undo() = 0 | count(3) = 15",
            "keep(0) | 3 times rules(0) | back(0) | 12 times rules(3) | 10 times undo() | undo() = STATE"
                + " | count(3) = 15");
    }

    private static void countRefuses() {
        for (String steps : ALL) {
            EDGES.bounds(25, THERE, steps, "count(#)", 0, 7);
        }
    }

    private static void count() {
        EDGES.holds(25, "0 THINGS", "count(0) = 0", "tell t0; | count(0) = 1", SIX + " | count(0) = 6");
        EDGES.holds(25, "1 SEASONS",
            "count(1) = 4",
            "tell l0; | count(1) = 1",
            "tell l0 0 0; | count(1) = 3",
            "tell l0 0 0 0; | count(1) = 4");
        EDGES.holds(25, "2 CASES", "count(2) = 2", "tell c1; | count(2) = 1", "tell c2; | count(2) = 2");
        EDGES.holds(25, "3 RULES that are on (bits)",
            "count(3) = 15 | rules(0) | count(3) = 14 | rules(1) | count(3) = 12 | rules(2) | count(3) = 8"
                + " | rules(3) | count(3) = 0 | undo() | count(3) = 8");
        EDGES.holds(25, "4 BARRED pairs",
            "count(4) = 0",
            "tell t9;t9;x1 0; | count(4) = 1 | rules(2) | count(4) = 1 | pairs(0, 1) | count(4) = 0 | undo()"
                + " | count(4) = 1",
            SIX + "x0 1;x0 2;x0 3;x0 4;x0 5;x1 2;x1 3;x1 4;x1 5;x2 3;x2 4;x2 5;x3 4;x3 5;x4 5; | count(4) = 15"
                + " | pairs(4, 5) = 0 | count(4) = 14");
        EDGES.holds(25, "5 SEEN", "count(5) = 0 | 4 times sees(0) | count(5) = 4 | sees(0) = FULL | count(5) = 4");
        EDGES.holds(25, "6 letters of THE TEXT",
            "count(6) = 0 | 100 times type(0) | count(6) = 100 | type(0) = FULL | count(6) = 100 | house() = -10"
                + " | count(6) = 100 | clear() | count(6) = 0");
        EDGES.holds(25, "7 how many may be UNDONE",
            "count(7) = 0 | 10 times rules(0) | count(7) = 10 | rules(0) | count(7) = 10 | undo() = 9 | count(7) = 9"
                + " | 9 times undo() | count(7) = 0 | undo() = STATE | count(7) = 0");
    }
}
