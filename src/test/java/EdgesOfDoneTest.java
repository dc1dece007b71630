/** The edges of promises 8 to 12 and of the terms that they name: sets, lends, pairs, rules, undo. */
public final class EdgesOfDoneTest {
    private static final Edges EDGES = new Edges();
    private static final String THERE = "BAD (a number is not as told, or there is no such thing)";
    private static final String SIX = "tell t9;t9;t9;t9;t9;t9;";
    private static final String[] ALL = {Edges.NEW, Edges.SMALL, Edges.RICH, Edges.GREAT, Edges.NO_PLAN};

    public static void main(String[] args) {
        setsRefuses();
        setsAtItsEdges();
        lendsRefuses();
        lendsAtItsEdges();
        pairsRefuses();
        pairsAtItsEdges();
        rules();
        undoKnowsTen();
        undoTakesBack();
        undoIsRefused();
        EDGES.end(8, 12);
    }

    private static void setsRefuses() {
        EDGES.bounds(8, THERE, Edges.NEW, "sets(#, 0, 6)", 0, 3);
        EDGES.bounds(8, THERE, Edges.NEW, "sets(0, #, 6)", 0, 1);
        EDGES.bounds(8, THERE, Edges.NEW, "sets(0, 0, #)", 0, -1, 6);
        EDGES.bounds(8, THERE, Edges.SMALL, "sets(#, 0, 0)", 0, 0);
        EDGES.bounds(8, THERE, Edges.SMALL, "sets(0, #, 0)", 0, 0);
        EDGES.bounds(8, THERE, Edges.SMALL, "sets(0, 0, #)", 0, 0, 6);
        EDGES.bounds(8, THERE, Edges.NO_PLAN, "sets(#, 1, 0)", 0, 1);
        EDGES.bounds(8, THERE, Edges.RICH, "sets(#, 1, 3)", 0, 2);
        EDGES.bounds(8, THERE, Edges.RICH, "sets(2, #, 3)", 0, 1);
        EDGES.bounds(8, THERE, Edges.RICH, "sets(2, 1, #)", 0, 3, 6);
        EDGES.bounds(8, THERE, Edges.GREAT, "sets(#, 1, 0)", 0, 3);
        EDGES.bounds(8, THERE, Edges.GREAT, "sets(3, #, 0)", 0, 1);
        EDGES.bounds(8, THERE, Edges.GREAT, "sets(3, 1, #)", 0, 6);
        EDGES.refused(8, "STATE: it is so.", Edges.NEW, "sets(0, 0, 6) = STATE", "sets(3, 1, 6) = STATE");
        EDGES.refused(8, "STATE: it is so.",
            Edges.RICH, "sets(0, 0, 2) = STATE", "sets(2, 1, 0) = STATE", "sets(0, 1, 6) = STATE",
            "sets(1, 0, 6) = STATE");
        EDGES.refused(8, "STATE: it is so.", Edges.GREAT, "sets(3, 1, 5) = STATE", "sets(3, 0, 6) = STATE");
        EDGES.refused(8, "the first of these: BAD",
            Edges.RICH, "sets(3, 0, 6) = BAD", "sets(0, 2, 6) = BAD", "sets(-1, 0, 2) = BAD", "sets(0, -1, 2) = BAD",
            "sets(MIN, MIN, MIN) = BAD", "sets(MAX, MAX, MAX) = BAD");
    }

    private static void setsAtItsEdges() {
        EDGES.holds(8, "SET DOWN; thing 6: none any more: what was (NONE).",
            SIX + " | sets(0, 0, 0) = NONE | sets(0, 0, 5) = 0 | sets(0, 0, 0) = 5 | sets(0, 0, 6) = 0"
                + " | sets(0, 0, 6) = STATE | sets(0, 0, 5) = NONE | sets(0, 0, 6) = 5 | down(0, 0) = NONE",
            Edges.SMALL + " | sets(0, 0, 0) = NONE | down(0, 0) = 0 | sets(0, 0, 0) = STATE | sets(0, 0, 6) = 0"
                + " | sets(0, 0, 6) = STATE | count(7) = 2");
        EDGES.holds(8, "SET DOWN: a THING for a SEASON and CASE, or none any more.",
            SIX + " | sets(0, 0, 1) = NONE | sets(0, 1, 2) = NONE | sets(1, 0, 3) = NONE | sets(1, 1, 4) = NONE"
                + " | sets(2, 0, 5) = NONE | sets(2, 1, 0) = NONE | sets(3, 0, 1) = NONE | sets(3, 1, 1) = NONE"
                + " | sets(0, 0, 6) = 1 | down(0, 0) = NONE | down(0, 1) = 2 | down(1, 0) = 3 | down(1, 1) = 4"
                + " | down(2, 0) = 5 | down(2, 1) = 0 | down(3, 0) = 1 | down(3, 1) = 1 | count(7) = 9");
        EDGES.holds(8, "SET DOWN on: what is SET DOWN for a SEASON and CASE is there.",
            "tell c1;l1 1;t9;t9; | the plan = 0 0 | sets(0, 0, 1) = NONE | the plan = 1 1 | sets(1, 0, 0) = NONE"
                + " | the plan = 1 0 | sets(0, 0, 6) = 1 | the plan = 0 0 | rules(3) = 0 | sets(0, 0, 1) = NONE"
                + " | the plan = 0 0 | rules(3) = 1 | the plan = 1 0");
        EDGES.alike(8, "none any more",
            "tell t9;t9; | sets(1, 1, 1) | sets(1, 1, 6) | keep(0) | back(0)",
            "tell t9;t9; | keep(0)");
    }

    private static void lendsRefuses() {
        EDGES.bounds(9, THERE, Edges.NEW, "lends(#, 4, 0)", 0, -1);
        EDGES.bounds(9, THERE, Edges.NEW, "lends(#, 0, 0)", 0, -1);
        EDGES.bounds(9, THERE, Edges.SMALL, "lends(#, 0, 0)", 0, 0);
        EDGES.bounds(9, THERE, Edges.SMALL, "lends(0, #, 0)", 0, 0, 4);
        EDGES.bounds(9, THERE, Edges.SMALL, "lends(0, 0, #)", 0, 0);
        EDGES.bounds(9, THERE, Edges.NO_PLAN, "lends(1, #, 1)", 0, 1);
        EDGES.bounds(9, THERE, Edges.RICH, "lends(#, 1, 2)", 0, 3);
        EDGES.bounds(9, THERE, Edges.RICH, "lends(#, 4, 0)", 0, 3);
        EDGES.bounds(9, THERE, Edges.RICH, "lends(3, #, 2)", 0, 2);
        EDGES.bounds(9, THERE, Edges.RICH, "lends(3, 0, #)", 0, 2);
        EDGES.bounds(9, THERE, Edges.GREAT, "lends(#, 0, 3)", 0, 5);
        EDGES.bounds(9, THERE, Edges.GREAT, "lends(5, #, 3)", 0, 3);
        EDGES.bounds(9, THERE, Edges.GREAT, "lends(5, 0, #)", 0, 3);
        EDGES.bounds(9, "from 4 (to 0): not any more", Edges.GREAT, "lends(5, 4, #)", 0, 0);
        EDGES.bounds(9, "from 4 (to 0): not any more", Edges.RICH, "lends(3, 4, #)", 0, 0);
        EDGES.bounds(9, "from 4 (to 0): not any more", Edges.SMALL, "lends(0, 4, #)", 0, 0);
        EDGES.bounds(9, "(not ahead of it)", Edges.GREAT, "lends(1, 1, #)", 1, 3);
        EDGES.bounds(9, "(not ahead of it)", Edges.GREAT, "lends(1, 3, #)", 3, 3);
        EDGES.bounds(9, "(not ahead of it)", Edges.RICH, "lends(1, 2, #)", 2, 2);
        EDGES.refused(9, "STATE: it is so.", Edges.SMALL, "lends(0, 4, 0) = STATE");
        EDGES.refused(9, "STATE: it is so.",
            Edges.RICH, "lends(1, 2, 2) = STATE", "lends(3, 1, 1) = STATE", "lends(0, 4, 0) = STATE",
            "lends(2, 4, 0) = STATE");
        EDGES.refused(9, "STATE: it is so.", Edges.GREAT, "lends(5, 0, 3) = STATE", "lends(1, 4, 0) = STATE");
        EDGES.refused(9, "the first of these: BAD",
            Edges.RICH, "lends(4, 4, 0) = BAD", "lends(0, 4, 1) = BAD", "lends(0, 4, 4) = BAD",
            "lends(0, 2, 1) = BAD", "lends(MIN, MIN, MIN) = BAD", "lends(MAX, MAX, MAX) = BAD",
            "lends(0, NONE, NONE) = BAD");
    }

    private static void lendsAtItsEdges() {
        EDGES.holds(9, "10 times the first SEASON and the last as it was (NONE)",
            "tell t9; | lends(0, 0, 0) = NONE | lends(0, 0, 1) = 0 | lends(0, 0, 3) = 1 | lends(0, 1, 1) = 3"
                + " | lends(0, 1, 3) = 11 | lends(0, 2, 3) = 13 | lends(0, 3, 3) = 23 | lends(0, 4, 0) = 33"
                + " | lends(0, 3, 3) = NONE | lends(0, 0, 0) = 33 | lends(0, 4, 0) = 0 | lends(0, 4, 0) = STATE",
            "tell t9;a0 1 2; | lends(0, 4, 0) = 12",
            SIX + " | lends(5, 0, 3) = NONE | lends(5, 1, 2) = 3 | thing(5, 1) = 1 | thing(5, 2) = 2"
                + " | thing(4, 1) = NONE");
        EDGES.holds(9, "LENT: a THING from a SEASON to one, or not any more.",
            "tell t9;t9; | lends(0, 0, 0) | thing(0, 1) = 0 | thing(0, 2) = 0 | lends(0, 4, 0) = 0"
                + " | thing(0, 1) = NONE | thing(0, 2) = NONE | thing(1, 1) = NONE");
        EDGES.holds(9, "STATE: it is so.",
            "tell t9;a0 1 2; | lends(0, 1, 2) = STATE | lends(0, 1, 1) = 12 | lends(0, 0, 1) = 11"
                + " | lends(0, 1, 1) = 1 | lends(0, 1, 1) = STATE | count(7) = 3");
        EDGES.holds(9, "LOAN on: none is shown while it is on LOAN.",
            "tell c1;l1 1 1 1;t9;t9;a0 1 2; | the plan = 1 1 1 1 | sets(0, 0, 0) | sets(3, 0, 0)"
                + " | the plan = 0 1 1 0 | sets(1, 0, 0) | the plan = none | undo() | sets(2, 0, 0)"
                + " | the plan = none | rules(1) = 0 | the plan = 0 0 0 0",
            "tell c1;l1 1 1 1;t9;a0 0 3; | the plan = none | lends(0, 4, 0) = 3 | the plan = 0 0 0 0"
                + " | lends(0, 3, 3) | the plan = none | lends(0, 0, 0) = 33 | the plan = none");
        EDGES.alike(9, "not any more",
            "tell t9;t9;a1 0 2; | lends(1, 4, 0) | keep(0) | back(0)",
            "tell t9;t9; | keep(0)");
    }

    private static void pairsRefuses() {
        EDGES.bounds(10, THERE, Edges.NEW, "pairs(#, 0)", 0, -1);
        EDGES.bounds(10, THERE, Edges.NEW, "pairs(0, #)", 0, -1);
        EDGES.bounds(10, THERE, Edges.SMALL, "pairs(0, #)", 0, -1);
        EDGES.bounds(10, THERE, Edges.SMALL, "pairs(#, 0)", 0, -1);
        EDGES.bounds(10, THERE, Edges.NO_PLAN, "pairs(0, #)", 1, 1);
        EDGES.bounds(10, THERE, Edges.RICH, "pairs(0, #)", 1, 3);
        EDGES.bounds(10, THERE, Edges.RICH, "pairs(#, 3)", 0, 2);
        EDGES.bounds(10, THERE, Edges.GREAT, "pairs(5, #)", 0, 4);
        EDGES.bounds(10, THERE, Edges.GREAT, "pairs(#, 0)", 1, 5);
        EDGES.refused(10, "BARRED pairs of unlike THINGS",
            Edges.GREAT, "pairs(0, 0) = BAD", "pairs(1, 1) = BAD", "pairs(5, 5) = BAD", "pairs(6, 6) = BAD",
            "pairs(-1, -1) = BAD", "pairs(MIN, MIN) = BAD", "pairs(MAX, MAX) = BAD");
    }

    private static void pairsAtItsEdges() {
        EDGES.holds(10, "PAIRED: BARRED (1), or not (0) then.",
            "tell t9;t9; | pairs(0, 1) = 1 | pairs(0, 1) = 0 | pairs(1, 0) = 1 | pairs(0, 1) = 0 | count(4) = 0"
                + " | count(7) = 4",
            "tell t9;t9;x0 1; | pairs(1, 0) = 0 | pairs(1, 0) = 1",
            "tell t9;t9; | rules(2) = 0 | pairs(0, 1) = 1 | thing(0, 3) = 2 | pairs(0, 1) = 0");
        StringBuilder all = new StringBuilder(SIX);
        for (int t = 0; t < 6; t++) {
            for (int other = t + 1; other < 6; other++) {
                all.append(" | pairs(").append(other).append(", ").append(t).append(") = 1");
            }
        }
        EDGES.holds(10, "PAIRED: two THINGS are BARRED, or not any more.",
            all + " | count(4) = 15 | count(7) = 10 | thing(0, 3) = 62 | thing(1, 3) = 61 | thing(2, 3) = 59"
                + " | thing(3, 3) = 55 | thing(4, 3) = 47 | thing(5, 3) = 31 | the plan = none | needed() = NONE"
                + " | pairs(4, 5) = 0 | the plan = none | count(4) = 14");
        EDGES.holds(10, "BARRED on: no two that are are shown in one SEASON.",
            "tell l1 1;t9;t9;t9; | pairs(0, 1) = 1 | the plan = 02 02 | pairs(2, 0) = 1 | the plan = 12 12"
                + " | pairs(1, 2) = 1 | the plan = none | rules(2) = 0 | the plan = 01 01",
            "tell c1;l1 1;t1;t1;x0 1; | the plan = 0 1");
        EDGES.alike(10, "or not any more",
            "tell t9;t9;t9;x0 2; | pairs(2, 0) | keep(0) | back(0)",
            "tell t9;t9;t9; | keep(0)");
    }

    private static void rules() {
        for (String steps : ALL) {
            EDGES.bounds(11, THERE, steps, "rules(#)", 0, 3);
        }
        EDGES.holds(11, "RULED: on (1), off (0) then.",
            "rules(0) = 0 | rules(0) = 1 | rules(1) = 0 | rules(1) = 1 | rules(2) = 0 | rules(2) = 1 | rules(3) = 0"
                + " | rules(3) = 1 | count(3) = 15 | count(7) = 8",
            "rules(3) = 0 | count(3) = 7 | rules(2) = 0 | count(3) = 3 | rules(1) = 0 | count(3) = 1 | rules(0) = 0"
                + " | count(3) = 0 | rules(3) = 1 | count(3) = 8 | rules(0) = 1 | count(3) = 9");
        EDGES.holds(11, "RULED: a RULE is off, or on.",
            "100 times rules(1) | count(3) = 15 | rules(1) = 0 | count(3) = 13");
        EDGES.holds(11, "RULES 0 LIGHT, 1 LOAN, 2 BARRED, 3 SET DOWN",
            "tell c1;l1;t0;t1; | the plan = 1 | rules(0) | the plan = 0",
            "tell c1;l1;t1;t1;a0 0 0; | the plan = 1 | rules(1) | the plan = 0",
            "tell l1;t1;t1;t1;x0 1; | the plan = 02 | rules(2) | the plan = 01",
            "tell c1;l1;t1;t1; | sets(0, 0, 1) | the plan = 1 | rules(3) | the plan = 0");
    }

    private static void undoKnowsTen() {
        String known = "(10 are known, older ones are lost)";
        EDGES.holds(12, known,
            "9 times rules(0) | count(7) = 9 | undo() = 8 | 8 times undo() | undo() = STATE | count(3) = 15",
            "10 times rules(0) | count(7) = 10 | undo() = 9 | 9 times undo() | undo() = STATE | count(3) = 15",
            "11 times rules(0) | count(7) = 10 | undo() = 9 | 9 times undo() | undo() = STATE | count(3) = 14",
            "25 times rules(0) | rules(1) | count(7) = 10 | 10 times undo() | undo() = STATE | count(3) = 15");
        EDGES.holds(12, known,
            "10 times rules(0) | 5 times undo() | count(7) = 5 | 7 times rules(1) | count(7) = 10 | 7 times undo()"
                + " | count(3) = 14 | undo() = 2 | undo() = 1 | undo() = 0 | undo() = STATE | count(3) = 15");
        EDGES.holds(12, known,
            SIX + " | sets(0, 0, 1) | lends(0, 0, 0) | pairs(0, 1) | rules(0) | sets(0, 0, 2) | lends(0, 1, 1)"
                + " | pairs(0, 2) | rules(1) | sets(0, 0, 3) | lends(0, 2, 2) | pairs(0, 3) | 10 times undo()"
                + " | undo() = STATE | down(0, 0) = 1 | thing(0, 1) = NONE | thing(0, 3) = 0 | count(3) = 15");
        EDGES.holds(12, "how many more may be",
            "10 times rules(2) | undo() = 9 | undo() = 8 | undo() = 7 | undo() = 6 | undo() = 5 | undo() = 4"
                + " | undo() = 3 | undo() = 2 | undo() = 1 | undo() = 0 | undo() = STATE",
            "rules(2) | undo() = 0");
    }

    private static void undoTakesBack() {
        String latest = "UNDONE: the latest sets(), lends(), pairs(), rules() that was not refused";
        for (String steps : new String[] {Edges.RICH, Edges.NO_PLAN}) {
            EDGES.alike(12, latest, steps, steps + " | sets(0, 0, 0) | undo()");
            EDGES.alike(12, latest, steps, steps + " | lends(1, 0, 0) | undo()");
            EDGES.alike(12, latest, steps, steps + " | pairs(1, 0) | undo()");
            EDGES.alike(12, latest, steps, steps + " | rules(3) | undo()");
        }
        EDGES.alike(12, latest, Edges.RICH, Edges.RICH + " | sets(0, 0, 6) | undo() = 9");
        EDGES.alike(12, latest, Edges.RICH, Edges.RICH + " | lends(1, 4, 0) | undo() = 9");
        EDGES.alike(12, latest,
            Edges.SMALL,
            Edges.SMALL + " | sets(0, 0, 0) | lends(0, 0, 0) | rules(0) | 3 times undo()");
        EDGES.unlike(12, "older ones are lost", Edges.GREAT, Edges.GREAT + " | rules(0) | undo() = 9");
        EDGES.holds(12, "that was not refused",
            "tell c1;l1;t9;t9; | sets(0, 0, 1) | sets(0, 0, 1) = STATE | sets(0, 0, 2) = BAD"
                + " | lends(0, 4, 0) = STATE | lends(0, 1, 1) = BAD | pairs(0, 0) = BAD | rules(4) = BAD"
                + " | undo() = 0 | down(0, 0) = NONE | undo() = STATE");
        EDGES.holds(12, "the latest sets(), lends(), pairs(), rules()",
            "tell c1;l1;t9;t9; | rules(0) | sees(1) | write t1; | keep(0) | cost(0) = 0 | forget() | undo() = 0"
                + " | count(3) = 15 | count(6) = 3 | back(0) = 2 | count(3) = 14");
    }

    private static void undoIsRefused() {
        EDGES.refused(12, "STATE: none.", Edges.NEW, "undo() = STATE", "undo() = STATE");
        EDGES.refused(12, "STATE: none.", Edges.SMALL, "undo() = STATE");
        EDGES.refused(12, "STATE: none.", Edges.RICH + " | 9 times undo()", "undo() = STATE");
        EDGES.refused(12, "STATE: none.", Edges.GREAT + " | 10 times undo()", "undo() = STATE");
        EDGES.refused(12, "(nothing can be UNDONE behind back())", Edges.RICH + " | back(0)", "undo() = STATE");
        EDGES.refused(12, "nothing can be UNDONE", Edges.RICH + " | house() = 6", "undo() = STATE");
    }
}
