/** Promises 23 to 25: keep, back, count. */
public final class ImagesTest {
    private static final int BAD = MuseumYear.BAD, STATE = MuseumYear.STATE, NONE = MuseumYear.NONE;
    private static final int[] WRONG = {Integer.MIN_VALUE, -9, -1, 2, 3, 100, Integer.MAX_VALUE};
    private static final Check CHECK = new Check();

    public static void main(String[] args) {
        keep();
        back();
        backKeepsWhatNoImageHas();
        nothingIsUndoneBehindBack();
        twoImages();
        count();
        CHECK.end();
    }

    private static void keep() {
        MuseumYear year = Check.told("t9;t9;t9;");
        for (int wrong : WRONG) {
            CHECK.due("keep(" + wrong + ")", year.keep(wrong), BAD);
        }
        CHECK.due("keep(0)", year.keep(0), 3);
        CHECK.due("keep(0) again", year.keep(0), 3);
        CHECK.due("keep is not undone", year.count(7), 0);
        CHECK.due("keep, no things", new MuseumYear().keep(1), 0);
        year.sets(0, 0, 1);
        year.keep(0);
        year.sets(0, 0, 2);
        year.back(0);
        CHECK.due("the image kept last", year.down(0, 0), 1);
    }

    private static void back() {
        MuseumYear year = Check.told("t9;t9;t9;x0 1;a2 1 2;");
        for (int wrong : WRONG) {
            CHECK.due("back(" + wrong + ")", year.back(wrong), BAD);
        }
        CHECK.due("none was kept", year.back(0), STATE);
        year.sets(1, 1, 0);
        year.rules(3);
        year.keep(1);
        CHECK.due("none was kept there", year.back(0), STATE);
        year.sets(1, 1, 2);
        year.sets(3, 0, 1);
        year.lends(2, 4, 0);
        year.lends(0, 0, 3);
        year.pairs(0, 1);
        year.pairs(1, 2);
        year.rules(0);
        year.rules(3);
        CHECK.due("back(1)", year.back(1), 3);
        CHECK.due("down(1, 1)", year.down(1, 1), 0);
        CHECK.due("down(3, 0)", year.down(3, 0), NONE);
        CHECK.due("thing(2, 1)", year.thing(2, 1), 1);
        CHECK.due("thing(2, 2)", year.thing(2, 2), 2);
        CHECK.due("thing(0, 1)", year.thing(0, 1), NONE);
        CHECK.due("thing(0, 3)", year.thing(0, 3), 2);
        CHECK.due("thing(1, 3)", year.thing(1, 3), 1);
        CHECK.due("thing(2, 3)", year.thing(2, 3), 0);
        CHECK.due("rules", year.count(3), 7);
        year.sets(1, 1, 1);
        CHECK.due("back(1) again", year.back(1), 3);
        CHECK.due("an image is not worn out", year.down(1, 1), 0);
    }

    private static void backKeepsWhatNoImageHas() {
        MuseumYear year = Check.told("t9;t8;");
        year.sees(1);
        year.keep(0);
        year.sees(2);
        Check.type(year, "t1;");
        year.back(0);
        CHECK.due("what was seen", year.count(5), 2);
        CHECK.due("the text", year.count(6), 3);
        CHECK.due("what a thing bears", year.thing(1, 0), 8);
    }

    private static void nothingIsUndoneBehindBack() {
        MuseumYear year = Check.told("t9;t9;");
        year.rules(0);
        CHECK.due("a refused back", year.back(0), STATE);
        CHECK.due("changes nothing", year.count(7), 1);
        year.keep(0);
        year.rules(1);
        CHECK.due("keep changes nothing", year.count(7), 2);
        year.back(0);
        CHECK.due("count(7)", year.count(7), 0);
        CHECK.due("undo", year.undo(), STATE);
        CHECK.due("rules", year.count(3), 14);
        year.rules(2);
        CHECK.due("what comes then", year.undo(), 0);
        CHECK.due("rules", year.count(3), 14);
    }

    private static void twoImages() {
        MuseumYear year = Check.told("c1;l1;t9;t9;");
        year.keep(0);
        year.sets(0, 0, 1);
        year.keep(1);
        year.back(0);
        CHECK.due("image 0", year.down(0, 0), NONE);
        year.back(1);
        CHECK.due("image 1", year.down(0, 0), 1);
        year.undo();
        year.back(0);
        CHECK.due("image 0", year.down(0, 0), NONE);
    }

    private static void count() {
        MuseumYear year = Check.told("c1;l1 2 3;t9;t9;t9;t9;x0 1;x2 3;x1 3;");
        year.rules(1);
        year.rules(2);
        year.sees(4);
        year.sees(4);
        year.sees(4);
        Check.type(year, "abcde");
        int[] want = {4, 3, 1, 9, 3, 3, 5, 2};
        for (int what = 0; what < want.length; what++) {
            CHECK.due("count(" + what + ")", year.count(what), want[what]);
        }
        for (int wrong : new int[] {Integer.MIN_VALUE, -9, -1, 8, 9, 100, Integer.MAX_VALUE}) {
            CHECK.due("count(" + wrong + ")", year.count(wrong), BAD);
        }
        for (int a = 0; a < 4; a++) {
            for (int b = a + 1; b < 4; b++) {
                if ((year.thing(a, 3) >> b & 1) == 0) {
                    year.pairs(a, b);
                }
            }
        }
        CHECK.due("all pairs", year.count(4), 6);
    }
}
