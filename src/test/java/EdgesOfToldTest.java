/** The edges of promises 1 to 7 and of their terms: a new object, type, clear, house, thing, light, down. */
public final class EdgesOfToldTest {
    private static final Edges EDGES = new Edges();
    private static final String SIX = "t1;t1;t1;t1;t1;t1;";

    public static void main(String[] args) {
        newObject();
        calls();
        type();
        clear();
        houseReads();
        houseTellsAnew();
        limitsOfAText();
        casesAndLights();
        things();
        pairsBarred();
        loans();
        tokens();
        endsOfATextTooEarly();
        thing();
        light();
        down();
        EDGES.end(1, 7);
    }

    private static void newObject() {
        EDGES.holds(1, "As told; no THINGS.",
            "the counts = 0 4 2 15 0 0 0 0 | thing(0, 0) = BAD | unseen() = 0 | often(0) = NONE | the plan = none"
                + " | needed() = NONE | cost(0) = NONE | cost(1) = NONE");
        EDGES.holds(1, "(1 to 4; 4 at first)", "count(1) = 4 | light(3) = 5 | light(4) = BAD");
        EDGES.holds(1, "(0 .. 30; 5 at first)", "light(0) = 5 | light(1) = 5 | light(2) = 5 | light(3) = 5");
        EDGES.holds(1, "(1 or 2; 2 at first)", "count(2) = 2 | down(0, 1) = NONE | down(0, 2) = BAD");
        EDGES.holds(1, "all on at first", "count(3) = 15");
        EDGES.holds(1, "nothing can be UNDONE, nothing SEEN, IMAGES are gone",
            "undo() = STATE | back(0) = STATE | back(1) = STATE | clear() = 0 | forget() = 0");
        EDGES.alike(1, "As told; no THINGS.", Edges.NEW, "house() = 0");
    }

    private static void calls() {
        String some = "85 times rules(0) | count(3) = 14 | 85 times rules(0) | count(3) = 15";
        EDGES.holds(1, "An object is used for at most 512 calls after it has been made",
            some + " | " + some + " | 165 times rules(2) | count(3) = 11 | count(7) = 10 | undo() = 9");
        EDGES.holds(1, "An object is used for at most 512 calls after it has been made",
            "tell l5 5;t9;t10; | 498 times sets(0, 0, 2) = BAD | needed() = 1");
    }

    private static void type() {
        String sentence = "A letter (0 .. 255) comes to THE TEXT: how many it has.";
        for (String steps : new String[] {Edges.NEW, Edges.SMALL, Edges.RICH, Edges.NO_PLAN}) {
            EDGES.bounds(2, sentence, steps, "type(#)", 0, 255);
        }
        StringBuilder every = new StringBuilder("count(6) = 0");
        for (int letter = 0; letter < 256; letter++) {
            every.append(" | type(").append(letter).append(") = 1 | clear() = 1");
            every.append(letter % 120 == 119 ? "\n" : "");
        }
        EDGES.holds(2, sentence, every.toString().split("\n \\| "));
        EDGES.holds(2, sentence, "type(0) = 1 | type(255) = 2 | type(256) = BAD | type(-1) = BAD | type(32) = 3");
        EDGES.holds(2, "FULL: 100",
            "99 times type(32) | count(6) = 99 | type(32) = 100 | type(32) = FULL | count(6) = 100");
        EDGES.refused(2, "FULL: 100",
            "write t9" + " ".repeat(97) + ";", "type(32) = FULL", "type(0) = FULL", "type(255) = FULL",
            "type(116) = FULL");
        EDGES.refused(2, "FULL: 100", Edges.GREAT, "type(59) = FULL", "type(32) = FULL");
        EDGES.refused(2, "the first of these: BAD",
            Edges.GREAT, "type(-1) = BAD", "type(256) = BAD", "type(MIN) = BAD", "type(MAX) = BAD");
        EDGES.holds(2, "(100 letters at most)",
            "100 times type(32) | house() = 0 | type(32) = 1",
            "100 times type(32) | clear() = 100 | type(32) = 1");
    }

    private static void clear() {
        String sentence = "THE TEXT is empty: how many letters it had.";
        EDGES.holds(3, sentence,
            "clear() = 0 | clear() = 0",
            "write t | clear() = 1 | clear() = 0",
            "99 times type(113) | clear() = 99 | count(6) = 0",
            "100 times type(113) | clear() = 100 | count(6) = 0");
        EDGES.holds(3, sentence,
            "write c1;t9; | clear() = 6 | write t8; | house() = 1 | the counts = 1 4 2 15 0 0 0 0");
        EDGES.alike(3, sentence,
            Edges.RICH + " | clear() = 28",
            Edges.RICH + " | clear() | write t9;q | clear() = 4");
        EDGES.alike(3, sentence, Edges.SMALL, Edges.SMALL + " | write t1;t2; | clear() = 6");
        EDGES.alike(3, sentence, Edges.NEW, "clear() = 0");
    }

    private static void houseReads() {
        EDGES.reads("No ITEMS are no FAULT.", "0 ", "0  ", "0 " + " ".repeat(99), "0 " + " ".repeat(100));
        EDGES.reads("how many ITEMS",
            "1 c1;", "1 l0;", "1 t0;", "2 c1;l0;", "6 " + SIX, "3 t1;t1;x0 1;", "2 t1;a0 0 0;");
        EDGES.reads("how many ITEMS",
            "16 c1;l0;t0;" + "a0 0 0;".repeat(13),
            "17 " + SIX + "x0 1;x0 2;x0 3;x0 4;x0 5;x1 2;x1 3;x1 4;x1 5;x2 3;x2 4;");
        EDGES.holds(4, "and is empty then",
            "write t1; | house() = 1 | count(6) = 0 | clear() = 0 | house() = 0 | count(0) = 0");
        EDGES.refused(4, "-10 less FAULT: nothing changes.",
            Edges.RICH + " | clear() | write q", "house() = -10", "house() = -10");
        EDGES.refused(4, "-10 less FAULT: nothing changes.",
            Edges.RICH + " | clear() | write " + " ".repeat(99) + "t", "house() = -110");
        EDGES.refused(4, "-10 less FAULT: nothing changes.", "write c1;l3;t5;;", "house() = -19");
        EDGES.holds(4, "-10 less FAULT: nothing changes.",
            "write t5 | house() = -12 | write ; | house() = 1 | count(0) = 1");
    }

    private static void houseTellsAnew() {
        String anew = "(Read anew: as told, else as at first; nothing can be UNDONE, nothing SEEN, IMAGES are gone.)";
        for (String steps : new String[] {Edges.RICH, Edges.GREAT, Edges.NO_PLAN, Edges.SMALL}) {
            EDGES.alike(4, anew, steps + " | clear() | house() = 0", Edges.NEW);
            EDGES.alike(4, anew, steps + " | clear() | tell t7;t8;", "tell t7;t8;");
            EDGES.alike(4, anew, steps + " | clear() | tell c1;", "tell c1;");
            EDGES.alike(4, anew, steps + " | clear() | tell l3 4;t7;a0 1 1;", "tell l3 4;t7;a0 1 1;");
        }
        EDGES.holds(4, "as told, else as at first",
            "tell c1;l9;t5; | the counts = 1 1 1 15 0 0 0 0 | tell t6; | the counts = 1 4 2 15 0 0 0 0"
                + " | light(0) = 5 | light(3) = 5 | thing(0, 0) = 6",
            "tell c1;l9;t5; | tell c1;t6; | light(0) = 5 | count(1) = 4 | count(2) = 1",
            "tell c1;l9;t5; | tell l8;t6; | light(0) = 8 | light(1) = BAD | count(2) = 2");
        EDGES.holds(4, "as told, else as at first",
            "3 times rules(3) | rules(0) | house() = 0 | count(3) = 15",
            "tell t9;t9;x0 1;a0 1 1; | tell t9;t9; | thing(0, 1) = NONE | thing(0, 2) = NONE | thing(0, 3) = 0"
                + " | count(4) = 0",
            "tell t9;t9; | sets(0, 0, 1) | tell t9;t9; | down(0, 0) = NONE");
        EDGES.holds(4, "nothing can be UNDONE",
            "10 times rules(1) | house() = 0 | count(7) = 0 | undo() = STATE",
            "tell t9; | lends(0, 1, 2) | tell t9; | undo() = STATE | thing(0, 1) = NONE");
        EDGES.holds(4, "nothing SEEN",
            "tell c1;l1;t9;t0; | 4 times sees(9) | tell c1;l1;t9;t0; | count(5) = 0 | forget() = 0 | unseen() = 3"
                + " | sees(9) = 1 | unseen() = 1");
        EDGES.holds(4, "IMAGES are gone",
            "keep(0) | keep(1) | house() = 0 | back(0) = STATE | back(1) = STATE",
            "keep(1) | tell t9; | back(1) = STATE | keep(0) = 1 | back(1) = STATE | back(0) = 1");
    }

    private static void limitsOfAText() {
        EDGES.reads("(100 letters at most)",
            "1 " + " ".repeat(97) + "t9;", "1 t9;" + " ".repeat(97), "1 t" + " ".repeat(97) + "9;",
            "1 t9" + " ".repeat(97) + ";");
        EDGES.faults("(100 letters at most)",
            "99 " + " ".repeat(99) + ";", "0 " + "q".repeat(100), "1 t" + "9".repeat(99));
        EDGES.reads("blanks (32) between TOKENS",
            "4   c  2  ;  l  5  6  ;  t  7  ;  a  0  0  1  ;  ", "1 t 9;", "1 t9 ;", "1  t9;");
        EDGES.faults("blanks (32) between TOKENS",
            "1 t\t9;", "0 \tt9;", "3 t9;\n", "2 t9\r;", "2 t9" + (char) 160 + ";", "0 " + (char) 0 + "t9;",
            "2 l1" + (char) 31 + "2;", "2 l1" + (char) 33 + "2;", "1 t" + (char) 133 + "9;");
        EDGES.faults("each ended by ;",
            "2 c1l5;", "3 c1 l5;", "2 t1t1;", "3 c1;;", "0 ;", "1 t;", "1 c;", "1 l;", "8 t1;t1;x0;",
            "10 t1;t1;x0 1a0 0 0;", "7 t1;a0 0;", "3 t1 1;", "10 t1;a0 0 0 0;", "11 t1;t1;x0 1 0;");
    }

    private static void casesAndLights() {
        EDGES.reads("(1 or 2; 2 at first)", "1 c1;", "1 c2;");
        EDGES.faults("(1 or 2; 2 at first)", "1 c0;", "1 c3;", "1 c9;", "1 c10;", "1 c12;", "1 c99;", "1 c-1;");
        EDGES.holds(4, "(1 or 2; 2 at first)",
            "tell c1; | count(2) = 1",
            "tell c2; | count(2) = 2",
            "tell l5; | count(2) = 2");
        EDGES.faults("c N (CASES; once at most, ahead of all t)",
            "3 c1;c1;", "3 c1;c2;", "6 c1;l5;c1;", "3 t1;c1;", "3 t1;c", "10 t1;a0 0 0;c1;");
        EDGES.reads("c N (CASES; once at most, ahead of all t)", "2 l5;c1;", "2 c1;l5;", "3 l5;c1;t5;");
        EDGES.reads("l and one to four LIGHTS", "1 l1;", "1 l1 2;", "1 l1 2 3;", "1 l1 2 3 4;");
        EDGES.holds(4, "SEASONS are as many",
            "tell l7; | count(1) = 1 | light(0) = 7 | light(1) = BAD",
            "tell l7 8; | count(1) = 2 | light(1) = 8 | light(2) = BAD",
            "tell l7 8 9; | count(1) = 3 | light(2) = 9 | light(3) = BAD",
            "tell l7 8 9 6; | count(1) = 4 | light(3) = 6 | light(4) = BAD");
        EDGES.faults("a fifth LIGHT",
            "9 l1 2 3 4 5;", "9 l1 2 3 4 0;", "9 l1 2 3 4 100;", "9 l1 2 3 4 05;", "9 l0 0 0 0 0 0;");
        EDGES.reads("(0 .. 30; 5 at first)", "1 l0;", "1 l30;", "1 l30 0 30 0;", "1 l0 0 0 30;");
        EDGES.holds(4, "(0 .. 30; 5 at first)", "tell l0 30; | light(0) = 0 | light(1) = 30");
        EDGES.faults("(0 .. 30; 5 at first)",
            "1 l31;", "3 l0 31;", "7 l0 0 0 31;", "1 l99;", "1 l-1;", "1 l30000000000;");
        EDGES.faults("once at most, ahead of all t",
            "3 l1;l1;", "5 l1 2;l3;", "6 l1;c1;l1;", "3 t1;l1;", "3 t1;l", "6 t1;t1;l1;");
        EDGES.faults("(c, l again, or behind t,",
            "3 c1;c9;", "3 l1;l99;", "3 t1;c0;", "3 t1;l31;", "6 c1;t1;c1;", "6 l1;t1;l1;");
    }

    private static void things() {
        EDGES.reads("(6 at most)", "5 t1;t1;t1;t1;t1;", "6 " + SIX);
        EDGES.holds(4, "(6 at most)", "tell " + SIX + " | count(0) = 6 | thing(5, 0) = 1 | thing(6, 0) = BAD");
        EDGES.faults("a seventh t",
            "18 " + SIX + "t1;", "18 " + SIX + "t", "18 " + SIX + "t100;", "18 " + SIX + "t;",
            "23 " + SIX + "x0 1;t1;");
        EDGES.reads("each BEARS 0 .. 99 of light in a year", "1 t0;", "1 t99;", "2 t0;t99;");
        EDGES.holds(4, "each BEARS 0 .. 99 of light in a year",
            "tell t0;t99;t9;t10; | thing(0, 0) = 0 | thing(1, 0) = 99 | thing(2, 0) = 9 | thing(3, 0) = 10");
        EDGES.faults("each BEARS 0 .. 99 of light in a year", "1 t100;", "1 t-1;", "4 t1;t100;", "1 t999;", "1 t;");
        EDGES.holds(4, "t B (the next THING)",
            "tell t7;t8;t9; | thing(0, 0) = 7 | thing(1, 0) = 8 | thing(2, 0) = 9",
            "tell t7;a0 1 1;t8;x0 1;t9; | thing(0, 0) = 7 | thing(1, 0) = 8 | thing(2, 0) = 9 | count(0) = 3");
    }

    private static void pairsBarred() {
        EDGES.reads("x A B (BARRED, THINGS told ahead, B not A)",
            "3 t1;t1;x0 1;", "3 t1;t1;x1 0;", "7 " + SIX + "x5 0;", "7 " + SIX + "x0 5;", "4 t1;t1;x0 1;t1;");
        EDGES.faults("x A B (BARRED, THINGS told ahead, B not A)",
            "1 x0 1;", "4 t1;x1 0;", "6 t1;x0 1;", "6 t1;x0 0;", "9 t1;t1;x1 1;", "7 t1;t1;x2 0;", "9 t1;t1;x0 2;",
            "6 t1;x0 1;t1;", "19 " + SIX + "x6 0;", "21 " + SIX + "x0 6;", "21 " + SIX + "x5 5;", "7 t1;t1;x-1 0;");
        EDGES.faults("what is BARRED already",
            "14 t1;t1;x0 1;x0 1;", "14 t1;t1;x0 1;x1 0;", "14 t1;t1;x1 0;x0 1;", "17 t1;t1;t1;x0 1;x1 0;",
            "24 t1;t1;t1;x0 1;a0 0 0;x1 0;");
        EDGES.holds(4, "BARRED pairs of unlike THINGS",
            "tell t1;t1;t1;x0 2; | thing(0, 3) = 4 | thing(2, 3) = 1 | thing(1, 3) = 0 | count(4) = 1");
    }

    private static void loans() {
        EDGES.reads("a T F E (a THING is on LOAN from F to E)",
            "2 t1;a0 0 0;", "2 t1;a0 3 3;", "2 t1;a0 0 3;", "7 " + SIX + "a5 1 2;", "3 l1;t1;a0 0 0;",
            "3 l1 1;t1;a0 1 1;", "3 l1 1 1;t1;a0 0 2;");
        EDGES.faults("a T F E (a THING is on LOAN from F to E)",
            "1 a0 0 0;", "4 t1;a1 0 0;", "19 " + SIX + "a6 0 0;", "4 t1;a1 0 0;t1;", "4 t1;a;", "5 t1;a0;",
            "4 t1;a-1 0 0;");
        EDGES.faults("a NUMBER beyond what it may be",
            "6 t1;a0 4 4;", "8 t1;a0 0 4;", "8 t1;a0 3 4;", "9 l1;t1;a0 1 1;", "11 l1;t1;a0 0 1;",
            "11 l1 1;t1;a0 2 2;", "13 l1 1;t1;a0 1 2;", "15 l1 1 1;t1;a0 0 3;", "6 t1;a0 99 99;");
        EDGES.reads("(not ahead of it)", "2 t1;a0 2 2;", "2 t1;a0 2 3;");
        EDGES.faults("(not ahead of it)", "8 t1;a0 2 1;", "8 t1;a0 1 0;", "8 t1;a0 3 0;", "8 t1;a0 3 2;");
        EDGES.holds(4, "(A LOAN told again is as told last.)",
            "tell t1;t1;a0 0 3;a1 1 1;a0 2 2; | thing(0, 1) = 2 | thing(0, 2) = 2 | thing(1, 1) = 1"
                + " | thing(1, 2) = 1",
            "tell t1;a0 1 2;a0 1 2; | thing(0, 1) = 1 | thing(0, 2) = 2",
            "tell t1;a0 3 3;a0 0 0; | thing(0, 1) = 0 | thing(0, 2) = 0 | count(7) = 0");
    }

    private static void tokens() {
        EDGES.faults("TOKENS are the letters c, l, t, x, a, NUMBERS (rows of figures) and ;",
            "0 C1;", "0 L1;", "0 T1;", "3 t1;A0 0 0;", "3 t1;X0 1;", "0 b1;", "0 d1;", "0 9;", "0 ;", "0 :", "2 t1:",
            "2 t1,", "1 t/;", "1 t:;", "1 t+1;", "2 t1.5;", "0 " + (char) 178, "1 t" + (char) 185 + ";",
            "0 " + (char) 243);
        EDGES.reads("(where no figures meet there need be no blanks between them)",
            "5 c1;l5 6;t9;t8;x0 1;", "2 t 9 ; t 8 ;", "2 t9;a0 1 2;");
        EDGES.faults("(where no figures meet there need be no blanks between them)",
            "7 t9;t9;x01;", "7 t9;t9;x10;", "7 t9;t9;x10 ;", "4 t9;a012;", "4 t9;a0123;", "6 t9;a0 12;", "1 l56;");
        EDGES.faults("of any other letter",
            "0 q", "3 t1;q", "1 tq;", "2 t1q;", "0 qt1;", "1 cq;", "3 c1;" + (char) 255, "3 c1;" + (char) 128,
            "3 c1;" + (char) 127);
        EDGES.faults("a NUMBER above 99",
            "1 t100;", "1 t101;", "1 t256;", "1 t4294967296;", "1 t4294967305;", "1 t18446744073709551617;",
            "1 c257;", "1 l65536;", "1 t2147483648;", "1 c4294967297;", "5 t1;a 4294967296 0 0;");
        EDGES.faults("or with a 0 ahead of others",
            "1 t00;", "1 t01;", "1 t09;", "1 t000;", "1 t099;", "1 c01;", "1 l05;", "3 l5 00;", "7 t1;t1;x00 1;",
            "9 t1;t1;x0 01;", "6 t1;a0 00 1;", "0 00", "0 01;");
        EDGES.reads("or with a 0 ahead of others", "1 t0;", "1 t10;", "1 l0 0;", "1 l10 20;");
        EDGES.faults("the place of the first letter of the first TOKEN that can't stand there",
            "3 c1;100", "1 c100;q", "4 t1;t100;c1;", "0 q00;", "5 c1;  ;", "6 c1;  x", "4 c1  99;", "1 c;", "1 cc1;",
            "1 t;t1;", "3 c1;1;", "1 tt;", "2 l1l2;", "2 l1c1;", "2 t1x0 1;");
    }

    private static void endsOfATextTooEarly() {
        EDGES.faults("the text's length, if it ends too early",
            "1 c", "1 l", "1 t", "1 x", "1 a", "2 c1", "2 l1", "2 t1", "4 l1 2", "8 l1 2 3 4", "3 c1 ", "5 c1   ",
            "4 t1;t", "4 t1;x", "5 t1;x0", "9 t1;t1;x0 ", "10 t1;t1;x0 1", "4 t1;a", "5 t1;a0", "7 t1;a0 0",
            "9 t1;a0 0 3", "12 t1;a0 0 3   ");
        EDGES.faults("the text's length, if it ends too early",
            "100 " + " ".repeat(99) + "t", "100 " + " ".repeat(98) + "t9", "100 t" + " ".repeat(99),
            "99 " + " ".repeat(98) + "t", "100 t9;" + " ".repeat(95) + "t5", "100 " + SIX + "x0 1" + " ".repeat(78));
    }

    private static void thing() {
        String there = "BAD (a number is not as told, or there is no such thing)";
        EDGES.bounds(5, there, Edges.NEW, "thing(#, 0)", 0, -1);
        EDGES.bounds(5, there, Edges.SMALL, "thing(#, 0)", 0, 0);
        EDGES.bounds(5, there, Edges.RICH, "thing(#, 1)", 0, 3);
        EDGES.bounds(5, there, Edges.GREAT, "thing(#, 3)", 0, 5);
        EDGES.bounds(5, there, Edges.SMALL, "thing(0, #)", 0, 3);
        EDGES.bounds(5, there, Edges.GREAT, "thing(5, #)", 0, 3);
        EDGES.refused(5, there, Edges.RICH, "thing(4, 4) = BAD", "thing(MIN, MIN) = BAD", "thing(MAX, MAX) = BAD");
        EDGES.holds(5, "0 what it BEARS",
            "tell t0;t99; | thing(0, 0) = 0 | thing(1, 0) = 99",
            "tell l30 30 30 30;t0;t7; | rules(0) | cost(1) = 120 | thing(0, 0) = 0 | thing(1, 0) = 7");
        EDGES.holds(5, "1 LOAN's first SEASON (NONE), 2 its last (NONE)",
            "tell t1; | thing(0, 1) = NONE | thing(0, 2) = NONE | lends(0, 0, 0) | thing(0, 1) = 0 | thing(0, 2) = 0"
                + " | lends(0, 0, 3) | thing(0, 1) = 0 | thing(0, 2) = 3 | lends(0, 3, 3) | thing(0, 1) = 3"
                + " | thing(0, 2) = 3 | lends(0, 4, 0) | thing(0, 1) = NONE | thing(0, 2) = NONE");
        EDGES.holds(5, "1 LOAN's first SEASON (NONE), 2 its last (NONE)",
            "tell t1;a0 1 2; | rules(1) | thing(0, 1) = 1 | thing(0, 2) = 2");
        EDGES.holds(5, "3 THINGS it is BARRED with (bits)",
            "tell t1; | thing(0, 3) = 0",
            "tell " + SIX + "x5 0;x5 1;x5 2;x5 3;x5 4; | thing(5, 3) = 31 | thing(0, 3) = 32 | thing(4, 3) = 32",
            "tell " + SIX + "x0 1;x0 2;x0 3;x0 4;x0 5; | thing(0, 3) = 62 | thing(5, 3) = 1 | rules(2)"
                + " | thing(0, 3) = 62");
    }

    private static void light() {
        String there = "BAD (a number is not as told, or there is no such thing)";
        EDGES.bounds(6, there, Edges.NEW, "light(#)", 0, 3);
        EDGES.bounds(6, there, Edges.SMALL, "light(#)", 0, 0);
        EDGES.bounds(6, there, Edges.NO_PLAN, "light(#)", 0, 1);
        EDGES.bounds(6, there, Edges.RICH, "light(#)", 0, 2);
        EDGES.bounds(6, there, Edges.GREAT, "light(#)", 0, 3);
        EDGES.holds(6, "LIGHT of a SEASON.",
            "tell l0 30 1 29; | light(0) = 0 | light(1) = 30 | light(2) = 1 | light(3) = 29",
            "tell l6; | rules(0) | light(0) = 6");
    }

    private static void down() {
        String there = "BAD (a number is not as told, or there is no such thing)";
        EDGES.bounds(7, there, Edges.NEW, "down(#, 0)", 0, 3);
        EDGES.bounds(7, there, Edges.NEW, "down(0, #)", 0, 1);
        EDGES.bounds(7, there, Edges.SMALL, "down(#, 0)", 0, 0);
        EDGES.bounds(7, there, Edges.SMALL, "down(0, #)", 0, 0);
        EDGES.bounds(7, there, Edges.RICH, "down(#, 1)", 0, 2);
        EDGES.bounds(7, there, Edges.RICH, "down(2, #)", 0, 1);
        EDGES.bounds(7, there, Edges.GREAT, "down(#, 1)", 0, 3);
        EDGES.refused(7, there, Edges.SMALL, "down(1, 1) = BAD", "down(MIN, MIN) = BAD", "down(MAX, MAX) = BAD");
        EDGES.holds(7, "What is SET DOWN; NONE.",
            "tell " + SIX + " | down(0, 0) = NONE | sets(0, 0, 0) | down(0, 0) = 0 | sets(3, 1, 5) | down(3, 1) = 5"
                + " | down(3, 0) = NONE | down(2, 1) = NONE | sets(3, 1, 6) | down(3, 1) = NONE | rules(3)"
                + " | down(0, 0) = 0",
            "tell c1;" + SIX + " | sets(1, 0, 4) | down(0, 0) = NONE | down(1, 0) = 4 | down(2, 0) = NONE"
                + " | down(1, 1) = BAD");
    }
}
