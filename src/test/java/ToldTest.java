/** Promises 1 to 7: a new object, type, clear, house, thing, light, down. */
public final class ToldTest {
    private static final int BAD = MuseumYear.BAD, STATE = MuseumYear.STATE, FULL = MuseumYear.FULL;
    private static final int NONE = MuseumYear.NONE;
    private static final int[] WRONG = {Integer.MIN_VALUE, -1000000, -9, -2, -1, 7, 8, 9, 100, 256, Integer.MAX_VALUE};
    private static final Check CHECK = new Check();

    public static void main(String[] args) {
        constants();
        newObject();
        type();
        clear();
        houseReadsItems();
        houseFindsFaults();
        houseTellsAllAnew();
        houseWithFaultChangesNothing();
        thing();
        light();
        down();
        CHECK.end();
    }

    private static void constants() {
        CHECK.due("BAD", BAD, -1);
        CHECK.due("STATE", STATE, -2);
        CHECK.due("FULL", FULL, -3);
        CHECK.due("NONE", NONE, -9);
        CHECK.due("NO", MuseumYear.NO, -1000000);
    }

    private static void newObject() {
        MuseumYear year = new MuseumYear();
        int[] counts = {0, 4, 2, 15, 0, 0, 0, 0};
        for (int what = 0; what < counts.length; what++) {
            CHECK.due("new: count(" + what + ")", year.count(what), counts[what]);
        }
        for (int season = 0; season < 4; season++) {
            CHECK.due("new: light", year.light(season), 5);
            CHECK.due("new: down", year.down(season, 0), NONE);
            CHECK.due("new: down", year.down(season, 1), NONE);
            CHECK.due("new: plan", year.plan(season, 0), NONE);
        }
        CHECK.due("new: thing", year.thing(0, 0), BAD);
        CHECK.due("new: clear", year.clear(), 0);
        CHECK.due("new: undo", year.undo(), STATE);
        CHECK.due("new: back", year.back(0), STATE);
        CHECK.due("new: unseen", year.unseen(), 0);
        CHECK.due("new: needed", year.needed(), NONE);
        CHECK.due("two objects have nothing in common", Check.told("t1;").count(0) - year.count(0), 1);
    }

    private static void type() {
        MuseumYear year = new MuseumYear();
        for (int letter : new int[] {-1, 256, Integer.MIN_VALUE, Integer.MAX_VALUE}) {
            CHECK.due("type(" + letter + ")", year.type(letter), BAD);
        }
        CHECK.due("what is BAD is not written", year.count(6), 0);
        CHECK.due("type(0)", year.type(0), 1);
        CHECK.due("type(255)", year.type(255), 2);
        for (int n = 3; n <= 100; n++) {
            CHECK.due("type, " + n, year.type(' '), n);
        }
        CHECK.due("the letter 101", year.type(' '), FULL);
        CHECK.due("BAD comes ahead of FULL", year.type(256), BAD);
        CHECK.due("count(6)", year.count(6), 100);
    }

    private static void clear() {
        MuseumYear year = new MuseumYear();
        Check.type(year, "t5;");
        CHECK.due("clear", year.clear(), 3);
        CHECK.due("clear again", year.clear(), 0);
        CHECK.due("count(6)", year.count(6), 0);
        CHECK.due("nothing is read then", year.house(), 0);
        CHECK.due("no thing", year.count(0), 0);
        for (int n = 0; n < 100; n++) {
            year.type('q');
        }
        CHECK.due("clear a full text", year.clear(), 100);
        CHECK.due("there is room again", year.type('t'), 1);
    }

    private static void items(String text, int want) {
        MuseumYear year = new MuseumYear();
        Check.type(year, text);
        CHECK.due("house \"" + text + "\"", year.house(), want);
        CHECK.due("letters behind \"" + text + "\"", year.count(6), want >= 0 ? 0 : text.length());
    }

    private static void fault(String text, int place) {
        items(text, -10 - place);
    }

    private static void houseReadsItems() {
        items("", 0);
        items("     ", 0);
        items("c1;", 1);
        items("c2;l0;", 2);
        items("l0;c2;", 2);
        items("l30 0 30 0;", 1);
        items("  c  1  ;  l  1  2  ;  t  3  ;  ", 3);
        items("t0;t99;", 2);
        items("t1;t1;t1;t1;t1;t1;", 6);
        items("t1;t1;x0 1;a0 0 3;a0 1 1;a1 3 3;", 6);
        items("t1;t1;t1;x0 1;x1 2;x2 0;", 6);
        items("t1;a0 0 0;t1;x1 0;t1;", 5);
        items(" ".repeat(100), 0);
        items("t5" + " ".repeat(97) + ";", 1);
    }

    private static void houseFindsFaults() {
        fault("t5" + " ".repeat(98), 100);
        fault(" ".repeat(99) + "t", 100);
        fault(" ".repeat(98) + "t5", 100);
        fault("t" + "9".repeat(99), 1);
        fault(" ".repeat(99) + ";", 99);
        fault("c", 1);
        fault("c  ", 3);
        fault("c1", 2);
        fault("c1 ", 3);
        fault("c;", 1);
        fault("c0;", 1);
        fault("c3;", 1);
        fault("c12;", 1);
        fault("c1 1;", 3);
        fault("c1;c2;", 3);
        fault("t1;c1;", 3);
        fault("t1;l1;", 3);
        fault("l1;l1;", 3);
        fault("l1;c1;l1;", 6);
        fault("l;", 1);
        fault("l", 1);
        fault("l1", 2);
        fault("l31;", 1);
        fault("l1 31;", 3);
        fault("l1 1 1 1 1;", 9);
        fault("l1 1 1 1 99", 9);
        fault("l1 1 1 1 c", 9);
        fault("t;", 1);
        fault("t100;", 1);
        fault("t99999999999999999999;", 1);
        fault("t4294967296;", 1);
        fault("t00;", 1);
        fault("t05;", 1);
        fault("t1;t000;", 4);
        fault("t1;;", 3);
        fault(";", 0);
        fault("5", 0);
        fault("   7;", 3);
        fault("t1;t1;t1;t1;t1;t1;t", 18);
        fault("t1;t1;t1;t1;t1;t1;t100", 18);
        fault("x0 1;", 1);
        fault("t1;x0 0;", 6);
        fault("t1;x1 0;", 4);
        fault("t1;x0 1;", 6);
        fault("t1;x0;", 5);
        fault("t1;t1;x0 1 1;", 11);
        fault("t1;t1;x0 1;x0 1;", 14);
        fault("t1;t1;x0 1;x1 0;", 14);
        fault("t1;x01;", 4);
        fault("a0 0 0;", 1);
        fault("t1;a1 0 0;", 4);
        fault("t1;a0 4 4;", 6);
        fault("t1;a0 3 4;", 8);
        fault("t1;a0 2 1;", 8);
        fault("l1 1;t1;a0 2 2;", 11);
        fault("l1 1;t1;a0 1 2;", 13);
        fault("t1;a0 0;", 7);
        fault("t1;a0 0 0 0;", 10);
        fault("t1;a0 0 0", 9);
        fault("q", 0);
        fault("t1;T1;", 3);
        fault("t1\t;", 2);
        fault("t1,;", 2);
        fault("t-1;", 1);
        fault("c1;" + (char) 0, 3);
        fault("c1;" + (char) 255, 3);
        fault("c1;" + (char) 160, 3);
        fault("c9;q", 1);
        fault("q c9;", 0);
    }

    private static void houseTellsAllAnew() {
        MuseumYear year = Check.told("c1;l1 2;t9;t8;x0 1;a1 0 1;");
        year.sets(0, 0, 0);
        year.rules(2);
        year.sees(3);
        year.keep(0);
        year.keep(1);
        Check.type(year, "t7;t6;");
        CHECK.due("house", year.house(), 2);
        int[] counts = {2, 4, 2, 15, 0, 0, 0, 0};
        for (int what = 0; what < counts.length; what++) {
            CHECK.due("anew: count(" + what + ")", year.count(what), counts[what]);
        }
        CHECK.due("anew: light", year.light(0), 5);
        CHECK.due("anew: bears", year.thing(0, 0), 7);
        CHECK.due("anew: loan", year.thing(1, 1), NONE);
        CHECK.due("anew: barred", year.thing(1, 3), 0);
        CHECK.due("anew: down", year.down(0, 0), NONE);
        CHECK.due("anew: undo", year.undo(), STATE);
        CHECK.due("anew: image 0", year.back(0), STATE);
        CHECK.due("anew: image 1", year.back(1), STATE);
        CHECK.due("no items", year.house(), 0);
        CHECK.due("no things any more", year.count(0), 0);
    }

    private static void houseWithFaultChangesNothing() {
        MuseumYear year = Check.told("c1;l1 2;t9;t8;x0 1;a1 0 1;");
        year.sets(0, 0, 0);
        year.rules(2);
        year.sees(3);
        year.keep(0);
        CHECK.plan("ahead of the fault", year, "0 0");
        Check.type(year, "c2;l5 5 5;t1;t1;t1;x0 2;a0 1 1;q");
        CHECK.due("house", year.house(), -10 - 31);
        int[] counts = {2, 2, 1, 11, 1, 1, 32, 2};
        for (int what = 0; what < counts.length; what++) {
            CHECK.due("fault: count(" + what + ")", year.count(what), counts[what]);
        }
        CHECK.due("fault: light", year.light(1), 2);
        CHECK.due("fault: bears", year.thing(0, 0), 9);
        CHECK.due("fault: loan", year.thing(1, 2), 1);
        CHECK.due("fault: barred", year.thing(1, 3), 1);
        CHECK.due("fault: down", year.down(0, 0), 0);
        CHECK.plan("behind the fault", year, "0 0");
        CHECK.due("the text has its fault yet", year.house(), -10 - 31);
        CHECK.due("fault: back", year.back(0), 2);
    }

    private static void thing() {
        MuseumYear year = Check.told("t0;t99;t50;x0 2;x2 1;a1 0 1;a1 2 3;");
        int[][] want = {{0, NONE, NONE, 4}, {99, 2, 3, 4}, {50, NONE, NONE, 3}};
        for (int t = 0; t < 3; t++) {
            for (int what = 0; what < 4; what++) {
                CHECK.due("thing(" + t + ", " + what + ")", year.thing(t, what), want[t][what]);
            }
        }
        for (int wrong : WRONG) {
            CHECK.due("thing(" + wrong + ", 0)", year.thing(wrong, 0), BAD);
            CHECK.due("thing(0, " + wrong + ")", year.thing(0, wrong), BAD);
        }
        CHECK.due("thing(3, 0)", year.thing(3, 0), BAD);
        CHECK.due("thing(0, 4)", year.thing(0, 4), BAD);
        year.rules(1);
        year.rules(2);
        CHECK.due("a loan is told with its rule off", year.thing(1, 1), 2);
        CHECK.due("a pair is told with its rule off", year.thing(0, 3), 4);
    }

    private static void light() {
        MuseumYear year = Check.told("l30 0 7;");
        CHECK.due("light(0)", year.light(0), 30);
        CHECK.due("light(1)", year.light(1), 0);
        CHECK.due("light(2)", year.light(2), 7);
        CHECK.due("light(3)", year.light(3), BAD);
        for (int wrong : WRONG) {
            CHECK.due("light(" + wrong + ")", year.light(wrong), BAD);
        }
    }

    private static void down() {
        MuseumYear year = Check.told("c1;l1 1 1;t9;t9;");
        year.sets(1, 0, 1);
        CHECK.due("down(1, 0)", year.down(1, 0), 1);
        CHECK.due("down(0, 0)", year.down(0, 0), NONE);
        CHECK.due("down(2, 0)", year.down(2, 0), NONE);
        CHECK.due("down(3, 0)", year.down(3, 0), BAD);
        CHECK.due("down(0, 1)", year.down(0, 1), BAD);
        for (int wrong : WRONG) {
            CHECK.due("down(" + wrong + ", 0)", year.down(wrong, 0), BAD);
            CHECK.due("down(0, " + wrong + ")", year.down(0, wrong), BAD);
        }
        year.rules(3);
        CHECK.due("what is set down is told with its rule off", year.down(1, 0), 1);
    }
}
