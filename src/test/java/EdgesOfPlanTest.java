/** The edges of promises 13 to 19 and of the terms that they name: plan, cost, spent, shown, often, needed, dearth. */
public final class EdgesOfPlanTest {
    private static final Edges EDGES = new Edges();
    private static final String THERE = "BAD (a number is not as told, or there is no such thing)";
    private static final String NO_THINGS = "tell c1;l5 5;";

    public static void main(String[] args) {
        planRefuses();
        rulesOfAPlan();
        whichPlan();
        cost();
        spent();
        shown();
        often();
        needed();
        dearth();
        nothingIsChanged();
        EDGES.end(13, 19);
    }

    private static void planRefuses() {
        EDGES.bounds(13, THERE, Edges.NEW, "plan(#, 0)", 0, 3);
        EDGES.bounds(13, THERE, Edges.NEW, "plan(0, #)", 0, 1);
        EDGES.bounds(13, THERE, Edges.SMALL, "plan(#, 0)", 0, 0);
        EDGES.bounds(13, THERE, Edges.SMALL, "plan(0, #)", 0, 0);
        EDGES.bounds(13, THERE, Edges.NO_PLAN, "plan(#, 1)", 0, 1);
        EDGES.bounds(13, THERE, Edges.RICH, "plan(#, 1)", 0, 2);
        EDGES.bounds(13, THERE, Edges.GREAT, "plan(#, 0)", 0, 3);
        EDGES.bounds(13, THERE, Edges.GREAT, "plan(3, #)", 0, 1);
        EDGES.refused(13, THERE, Edges.RICH, "plan(3, 2) = BAD", "plan(MIN, MIN) = BAD", "plan(MAX, MAX) = BAD");
        EDGES.holds(13, "NONE: there is no PLAN.",
            "plan(0, 0) = NONE | plan(3, 1) = NONE",
            NO_THINGS + " | plan(1, 0) = NONE | plan(2, 0) = BAD | plan(0, 1) = BAD",
            "tell c1;l1;t0; | plan(0, 0) = NONE | plan(0, 1) = BAD",
            Edges.NO_PLAN + " | plan(0, 0) = NONE | plan(1, 1) = NONE | plan(2, 0) = BAD | plan(0, 2) = BAD");
    }

    private static void rulesOfAPlan() {
        EDGES.holds(13, "A PLAN has in each SEASON in each CASE one THING, no THING in both.",
            "tell t99; | the plan = none",
            "tell t99;t99; | the plan = 01 01 01 01",
            "tell c1;t99; | the plan = 0 0 0 0",
            "tell c1;l0;t0; | the plan = 0",
            "tell l0;t0;t0; | the plan = 01",
            "tell l0;t0; | the plan = none | needed() = NONE",
            "tell l1;t9;t9; | sets(0, 0, 1) | the plan = 10 | sets(0, 1, 1) | the plan = none");
        EDGES.holds(13, "no THING is shown in SEASONS whose LIGHTS together are above what it BEARS",
            "tell c1;l10;t10; | the plan = 0",
            "tell c1;l10;t9; | the plan = none",
            "tell c1;l1;t0; | the plan = none",
            "tell c1;l10 10;t20; | the plan = 0 0",
            "tell c1;l10 10;t19; | the plan = none",
            "tell c1;l30 30 30 9;t99; | the plan = 0 0 0 0",
            "tell c1;l30 30 30 10;t99; | the plan = none",
            "tell c1;l10 1 10;t20;t1; | the plan = 0 1 0",
            "tell c1;l10 1 10;t19;t1; | the plan = none",
            "tell c1;l0 0 0 0;t0; | the plan = 0 0 0 0");
        EDGES.holds(13, "no THING is shown in SEASONS whose LIGHTS together are above what it BEARS",
            "tell l10 10;t20;t20; | the plan = 01 01",
            "tell l10 10;t20;t19; | the plan = none",
            "tell l10 10;t20;t10;t10; | the plan = 01 02",
            "tell l10 10;t10;t10;t20; | the plan = 02 12",
            "tell l1 1;t1;t2;t0; | the plan = none",
            "tell l1 1;t1;t2;t1; | the plan = 01 21");
        EDGES.holds(13, "LOAN on: none is shown while it is on LOAN.",
            "tell c1;l1 1 1;t9;t1;a0 1 1; | the plan = 0 1 0",
            "tell c1;l1 1 1;t9;t1;t1;a0 0 0; | the plan = 1 0 0",
            "tell c1;l1 1 1;t9;t1;t1;a0 2 2; | the plan = 0 0 1",
            "tell c1;l1 1 1;t9;t1;t1;a0 0 2; | the plan = none | needed() = 1");
        EDGES.holds(13, "BARRED on: no two that are are shown in one SEASON.",
            "tell l1;t1;t1;x0 1; | the plan = none",
            "tell l1 1;t1;t1;t1;t1;x0 1;x2 3; | the plan = 02 13",
            "tell c1;l1;t1;t1;x0 1; | the plan = 0");
        EDGES.holds(13, "SET DOWN on: what is SET DOWN for a SEASON and CASE is there.",
            "tell l1 1;t2;t2;t2; | sets(1, 1, 0) | the plan = 10 10 | sets(0, 0, 0) | the plan = 01 10"
                + " | sets(1, 0, 2) | the plan = 01 20",
            "tell c1;l1;t1;t0; | sets(0, 0, 1) | the plan = none | needed() = 1",
            "tell c1;l1;t1;t1;a1 0 0; | sets(0, 0, 1) | the plan = none | rules(1) | the plan = 1");
        EDGES.holds(13, "A THING that is BROKEN is in none.",
            "tell c1;l1;t1;t1; | sets(0, 0, 1) | dearth(1) = NONE | dearth(0) = 0",
            "tell c1;l1 1;t2;t1;t1; | dearth(0) = 1 | dearth(1) = 0 | dearth(2) = 0");
    }

    private static void whichPlan() {
        EDGES.holds(13, "THE PLAN: of fewest CHANGES",
            "tell c1;l5 5;t5;t5;t10; | the plan = 2 2",
            "tell c1;l5 5;t10;t10; | the plan = 0 0",
            "tell c1;l5 5 5;t5;t10;t5;t10; | the plan = 0 1 1",
            "tell l5 5;t5;t5;t5;t5;t10;t10; | the plan = 45 45");
        EDGES.holds(13, "of these of least MOST",
            "tell c1;l9 1 1;t11;t9;t2; | the plan = 0 0 0",
            "tell c1;l9 1 1;t10;t10; | the plan = 0 1 1",
            "tell c1;l1 1 9;t10;t10; | the plan = 0 0 1",
            "tell c1;l4 3 2 1;t9;t9; | the plan = 0 1 1 1",
            "tell c1;l4 3 2 2;t9;t9; | the plan = 0 0 1 1");
        EDGES.holds(13, "of several the first (SEASON by SEASON, CASE by CASE, the lower THING)",
            "tell l5;t5;t5;t5;t5;t5;t5; | the plan = 01",
            "tell c1;l5 5;t5;t5;t5; | the plan = 0 1",
            "tell l5 5;t5;t10;t5; | the plan = 01 21",
            "tell l5 5;t5;t5;t10; | the plan = 02 12",
            "tell l5 5;t10;t5;t5; | the plan = 01 02",
            "tell l0 0;t0;t0;t0;a0 1 1; | the plan = 12 12",
            "tell l5 5 5;t5;t5;t5;t5;t5;t5; | the plan = 01 23 45");
    }

    private static void cost() {
        for (String steps : new String[] {Edges.NEW, Edges.SMALL, Edges.RICH, Edges.GREAT, Edges.NO_PLAN}) {
            EDGES.bounds(14, THERE, steps, "cost(#)", 0, 1);
        }
        EDGES.holds(14, "NONE: there is no PLAN.",
            "cost(0) = NONE | cost(1) = NONE | cost(2) = BAD | cost(-1) = BAD",
            Edges.NO_PLAN + " | cost(0) = NONE | cost(1) = NONE | cost(2) = BAD",
            NO_THINGS + " | cost(0) = NONE");
        EDGES.holds(14, "how many times a CASE has another THING than in the SEASON ahead",
            "tell l5;t5;t5; | cost(0) = 0",
            "tell l1 1;t9;t9; | sets(0, 0, 0) | sets(1, 1, 0) | the plan = 01 10 | cost(0) = 2",
            "tell c1;l1 1 1;t9;t9;a0 1 1; | sets(0, 0, 0) | sets(2, 0, 0) | the plan = 0 1 0 | cost(0) = 2",
            "tell c1;l1 1 1 1;t1;t1;t1;t1; | the plan = 0 1 2 3 | cost(0) = 3",
            "tell l1 1 1 1;t4;t1;t1;t1;t1; | the plan = 01 02 03 04 | cost(0) = 3");
        EDGES.holds(14, "how many times a CASE has another THING than in the SEASON ahead",
            "tell l1 1 1 1;t9;t9;t9;t9; | sets(0, 0, 0) | sets(1, 0, 1) | sets(2, 0, 0) | sets(3, 0, 1)"
                + " | sets(0, 1, 2) | sets(1, 1, 3) | sets(2, 1, 2) | cost(0) = 5 | sets(3, 1, 3) | cost(0) = 6"
                + " | cost(1) = 2 | the plan = 02 13 02 13");
        EDGES.holds(14, "MOST: the greatest light that any THING has had.",
            "tell c1;l0;t0; | cost(1) = 0",
            "tell l0 0 0 0;t0;t99; | cost(1) = 0",
            "tell c1;l30 30 30 9;t99; | cost(1) = 99",
            "tell l30 30 30 30;t0;t0; | cost(1) = NONE | rules(0) | cost(1) = 120 | cost(0) = 0",
            "tell l1 30;t31;t30;t1; | the plan = 02 01 | cost(1) = 31");
    }

    private static void spent() {
        EDGES.bounds(15, "NO: BAD, there is no PLAN.", Edges.SMALL, "spent(#, 0)", 0, 0);
        EDGES.bounds(15, "NO: BAD, there is no PLAN.", Edges.RICH, "spent(#, 1)", 0, 3);
        EDGES.bounds(15, "NO: BAD, there is no PLAN.", Edges.GREAT, "spent(#, 2)", 0, 5);
        EDGES.bounds(15, "NO: BAD, there is no PLAN.", Edges.SMALL, "spent(0, #)", 0, 2);
        EDGES.bounds(15, "NO: BAD, there is no PLAN.", Edges.GREAT, "spent(5, #)", 0, 2);
        EDGES.bounds(15, "NO: BAD, there is no PLAN.", Edges.NEW, "spent(#, 0)", 0, -1);
        EDGES.bounds(15, "NO: BAD, there is no PLAN.", Edges.NO_PLAN, "spent(#, 1)", 0, -1);
        EDGES.bounds(15, "NO: BAD, there is no PLAN.", Edges.NO_PLAN, "spent(0, #)", 0, -1);
        EDGES.refused(15, "What is BAD, or none, where a number may be below 0.",
            Edges.RICH, "spent(4, 3) = NO", "spent(MIN, MIN) = NO", "spent(MAX, MAX) = NO", "spent(-1, -1) = NO");
        EDGES.holds(15, "SPENT of a THING: the light that it has by THE PLAN",
            "tell c1;l0;t0; | spent(0, 0) = 0",
            "tell c1;l30 30 30 9;t99;t99; | lends(1, 0, 3) | spent(0, 0) = 99 | spent(1, 0) = 0",
            "tell l1 2 4 8;t15;t3;t12; | the plan = 01 01 02 02 | spent(0, 0) = 15 | spent(1, 0) = 3"
                + " | spent(2, 0) = 12");
        EDGES.holds(15, "what it BEARS less that (below 0, if LIGHT is off)",
            "tell c1;l10;t10; | spent(0, 1) = 0 | rules(0) | spent(0, 1) = 0",
            "tell c1;l10;t9; | spent(0, 1) = NO | rules(0) | spent(0, 1) = -1 | spent(0, 0) = 10",
            "tell l30 30 30 30;t0;t99; | rules(0) | spent(0, 0) = 120 | spent(0, 1) = -120 | spent(1, 1) = -21",
            "tell c1;l0;t99;t99; | spent(0, 1) = 99 | spent(1, 1) = 99",
            "tell c1;l9;t0;t99; | rules(0) | spent(0, 1) = -9");
        EDGES.holds(15, "SEASONS in which it is shown (2; bits)",
            "tell l1 2 4 8;t15;t3;t12;t0; | spent(0, 2) = 15 | spent(1, 2) = 3 | spent(2, 2) = 12 | spent(3, 2) = 0",
            "tell c1;l0;t0; | spent(0, 2) = 1",
            "tell l1 1;t9;t9; | sets(0, 0, 0) | sets(1, 1, 0) | spent(0, 2) = 3 | spent(1, 2) = 3 | spent(0, 0) = 2",
            "tell c1;l1 1 1 1;t1;t1;t1;t1; | spent(0, 2) = 1 | spent(1, 2) = 2 | spent(2, 2) = 4 | spent(3, 2) = 8");
    }

    private static void shown() {
        EDGES.bounds(16, THERE, Edges.NEW, "shown(#)", 0, 3);
        EDGES.bounds(16, THERE, Edges.SMALL, "shown(#)", 0, 0);
        EDGES.bounds(16, THERE, Edges.NO_PLAN, "shown(#)", 0, 1);
        EDGES.bounds(16, THERE, Edges.RICH, "shown(#)", 0, 2);
        EDGES.bounds(16, THERE, Edges.GREAT, "shown(#)", 0, 3);
        EDGES.holds(16, "SHOWN (bits); NONE: there is no PLAN.",
            "shown(0) = NONE | shown(3) = NONE | shown(4) = BAD",
            Edges.NO_PLAN + " | shown(1) = NONE | shown(2) = BAD",
            "tell c1;l0;t0; | shown(0) = 1",
            "tell l1;t0;t0;t0;t0;t1;t1; | shown(0) = 48",
            "tell c1;l1;t0;t0;t0;t0;t0;t1; | shown(0) = 32",
            "tell l1 1;t2;t1;t1; | shown(0) = 3 | shown(1) = 5 | shown(2) = BAD");
    }

    private static void often() {
        for (String steps : new String[] {Edges.NEW, Edges.SMALL, Edges.RICH, Edges.GREAT, Edges.NO_PLAN}) {
            EDGES.refused(17, "BAD: k below 0.", steps, "often(-1) = BAD", "often(-9) = BAD", "often(MIN) = BAD");
        }
        EDGES.holds(17, "NONE (there are not so many THINGS, there is no PLAN)",
            "often(0) = NONE | often(MAX) = NONE",
            Edges.SMALL + " | often(0) = 0 | often(1) = NONE | often(6) = NONE | often(MAX) = NONE",
            Edges.RICH + " | often(3) != NONE | often(4) = NONE | often(5) = NONE | often(6) = NONE",
            Edges.GREAT + " | often(5) != NONE | often(6) = NONE | often(32) = NONE | often(MAX) = NONE",
            Edges.NO_PLAN + " | often(0) = NONE | often(1) = NONE | often(2) = NONE",
            NO_THINGS + " | often(0) = NONE");
        EDGES.holds(17, "the most first, of like ones the lower first",
            "tell l1;t1;t1;t1;t1;t1;t1; | sets(0, 0, 5) | sets(0, 1, 3) | often(0) = 3 | often(1) = 5 | often(2) = 0"
                + " | often(3) = 1 | often(4) = 2 | often(5) = 4",
            "tell c1;l1 1 1 1;t0;t1;t2;t1; | often(0) = 2 | often(1) = 1 | often(2) = 3 | often(3) = 0",
            "tell c1;l0 9;t8;t9;t9; | the plan = 1 1 | often(0) = 1 | often(1) = 0 | often(2) = 2",
            "tell c1;l1 1 9;t2;t9; | the plan = 0 0 1 | often(0) = 0 | often(1) = 1 | often(2) = NONE");
    }

    private static void needed() {
        EDGES.holds(18, "NEEDED: the least number n (0 .. 99)",
            "tell c1;l0;t0; | needed() = 0",
            "tell c1;l1;t1; | needed() = 0",
            "tell c1;l1;t0; | needed() = 1",
            "tell c1;l30 30 30 8;t0; | needed() = 98",
            "tell c1;l30 30 30 9;t0; | needed() = 99",
            "tell c1;l30 30 30 10;t0; | needed() = NONE",
            "tell c1;l30 30 30 30;t21; | needed() = 99",
            "tell c1;l30 30 30 30;t20; | needed() = NONE",
            "tell l30 30 30 30;t99;t21; | needed() = 99",
            "tell l30 30 30 30;t99;t20; | needed() = NONE",
            "tell l30 30 30 30;t99;t99; | needed() = 21");
        EDGES.holds(18, "by which, each THING BEARING n more, there is a PLAN; NONE.",
            "needed() = NONE",
            "tell l0;t0; | needed() = NONE",
            "tell l1;t0;t0;x0 1; | needed() = NONE | rules(2) | needed() = 1",
            "tell c1;l1;t0;a0 0 0; | needed() = NONE | rules(1) | needed() = 1",
            "tell l1;t0;t0; | sets(0, 0, 0) | sets(0, 1, 0) | needed() = NONE | rules(3) | needed() = 1",
            "tell c1;l8 8;t3;t5; | needed() = 5",
            "tell c1;l8 8;t3;t12; | needed() = 4",
            "tell c1;l8 8;t4;t11; | needed() = 4",
            "tell c1;l8 8;t2;t15; | needed() = 1");
        EDGES.holds(18, "there is a PLAN; NONE.",
            "tell c1;l9;t0; | needed() = 9 | rules(0) | needed() = 0 | lends(0, 0, 0) | needed() = NONE | rules(0)"
                + " | needed() = NONE");
    }

    private static void dearth() {
        EDGES.bounds(19, THERE, Edges.NEW, "dearth(#)", 0, -1);
        EDGES.bounds(19, THERE, Edges.SMALL, "dearth(#)", 0, 0);
        EDGES.bounds(19, THERE, Edges.NO_PLAN, "dearth(#)", 0, 1);
        EDGES.bounds(19, THERE, Edges.RICH, "dearth(#)", 0, 3);
        EDGES.bounds(19, THERE, Edges.GREAT, "dearth(#)", 0, 5);
        EDGES.holds(19, "NONE (there is no PLAN then, or now)",
            "tell c1;l0;t0; | dearth(0) = NONE | dearth(1) = BAD",
            "tell c1;l0;t0;t0; | dearth(0) = 0 | dearth(1) = 0",
            "tell l0;t0;t0; | dearth(0) = NONE | dearth(1) = NONE",
            "tell l0;t0;t0;t0; | dearth(0) = 0 | dearth(1) = 0 | dearth(2) = 0",
            Edges.NO_PLAN + " | dearth(0) = NONE | dearth(1) = NONE | dearth(2) = BAD",
            "tell c1;l1;t0;t0; | dearth(0) = NONE | dearth(1) = NONE",
            "tell c1;l1;t1;t0; | dearth(0) = NONE | dearth(1) = 0");
        EDGES.holds(19, "by how much THE PLAN has more CHANGES, were it BROKEN",
            "tell c1;l1 1 1 1;t4;t1;t1;t1;t1; | cost(0) = 0 | dearth(0) = 3 | dearth(1) = 0 | dearth(4) = 0",
            "tell c1;l1 1 1 1;t1;t1;t1;t1;t1; | dearth(0) = 0 | dearth(4) = 0",
            "tell c1;l1 1 1 1;t1;t1;t1;t1; | dearth(3) = NONE",
            "tell c1;l1 1;t1;t2;t1; | dearth(0) = 0 | dearth(1) = 1 | dearth(2) = 0",
            "tell l3 1 1 2;t3;t7;t8;t1;t1;t5;x0 1;x1 4;x4 5;a0 3 3; | cost(0) = 0 | dearth(2) = 5");
    }

    private static void nothingIsChanged() {
        String asks = "plan(0, 0) | plan(1, 0) | cost(0) | cost(1) | spent(0, 0) | spent(0, 1) | spent(1, 2) | shown(0)"
            + " | shown(1) | often(0) | often(1) | needed() | dearth(0) | dearth(1) | unseen() | needed()";
        for (String steps : new String[] {Edges.RICH, Edges.GREAT}) {
            EDGES.alike(13, "(As things are NOW; nothing is changed.)", steps, steps + " | " + asks);
        }
        EDGES.alike(18, "(As things are NOW; nothing is changed.)", Edges.NO_PLAN, Edges.NO_PLAN + " | needed() = 1");
        EDGES.holds(18, "(As things are NOW; nothing is changed.)",
            Edges.NO_PLAN + " | needed() = 1 | the plan = none | thing(0, 0) = 19 | thing(1, 0) = 20 | needed() = 1");
        EDGES.holds(19, "(As things are NOW; nothing is changed.)",
            "tell c1;l1 1;t2;t1;t1; | the plan = 0 0 | dearth(0) = 1 | the plan = 0 0 | cost(0) = 0 | cost(1) = 2"
                + " | dearth(0) = 1 | shown(0) = 1 | spent(0, 0) = 2");
    }
}
