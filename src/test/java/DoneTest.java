/** Promises 8 to 12: sets, lends, pairs, rules, undo. */
public final class DoneTest {
    private static final int BAD = MuseumYear.BAD, STATE = MuseumYear.STATE, NONE = MuseumYear.NONE;
    private static final int[] WRONG = {Integer.MIN_VALUE, -1000000, -9, -2, -1, 7, 8, 9, 100, Integer.MAX_VALUE};
    private static final Check CHECK = new Check();

    public static void main(String[] args) {
        sets();
        setsWithSixThings();
        lends();
        lendsInAShortYear();
        pairs();
        rules();
        undoTakesBackEachKind();
        undoKnowsTen();
        undoForgetsWhatWasUndone();
        whatIsRefusedIsNotUndone();
        CHECK.end();
    }

    private static void sets() {
        MuseumYear year = Check.told("l5 5 5;t9;t9;t9;");
        CHECK.due("nothing is set down", year.sets(0, 0, 6), STATE);
        CHECK.due("sets(0, 0, 2)", year.sets(0, 0, 2), NONE);
        CHECK.due("it is so", year.sets(0, 0, 2), STATE);
        CHECK.due("sets(0, 0, 1)", year.sets(0, 0, 1), 2);
        CHECK.due("the same thing in the other case", year.sets(0, 1, 1), NONE);
        CHECK.due("sets(2, 1, 0)", year.sets(2, 1, 0), NONE);
        CHECK.due("down(0, 0)", year.down(0, 0), 1);
        CHECK.due("down(0, 1)", year.down(0, 1), 1);
        CHECK.due("down(2, 1)", year.down(2, 1), 0);
        CHECK.due("down(2, 0)", year.down(2, 0), NONE);
        CHECK.due("none any more", year.sets(0, 0, 6), 1);
        CHECK.due("down(0, 0)", year.down(0, 0), NONE);
        CHECK.due("a thing that is not there", year.sets(0, 0, 3), BAD);
        CHECK.due("a season that is not there", year.sets(3, 0, 0), BAD);
        CHECK.due("a case that is not there", year.sets(0, 2, 0), BAD);
        CHECK.due("BAD comes ahead of STATE", year.sets(3, 0, 6), BAD);
        for (int wrong : WRONG) {
            CHECK.due("sets(" + wrong + ", 0, 0)", year.sets(wrong, 0, 0), BAD);
            CHECK.due("sets(0, " + wrong + ", 0)", year.sets(0, wrong, 0), BAD);
            CHECK.due("sets(0, 0, " + wrong + ")", year.sets(0, 0, wrong), BAD);
        }
        CHECK.due("five were done", year.count(7), 5);
    }

    private static void setsWithSixThings() {
        MuseumYear year = Check.told("c1;t99;t99;t99;t99;t99;t99;");
        CHECK.due("the last thing", year.sets(1, 0, 5), NONE);
        CHECK.due("6 is none", year.sets(1, 0, 6), 5);
        CHECK.due("one case alone", year.sets(0, 1, 0), BAD);
    }

    private static void lends() {
        MuseumYear year = Check.told("t9;t9;a1 1 2;");
        CHECK.due("no loan", year.lends(0, 4, 0), STATE);
        CHECK.due("as told", year.lends(1, 1, 2), STATE);
        CHECK.due("another first season", year.lends(1, 0, 2), 12);
        CHECK.due("another last season", year.lends(1, 0, 3), 2);
        CHECK.due("one season", year.lends(1, 3, 3), 3);
        CHECK.due("not any more", year.lends(1, 4, 0), 33);
        CHECK.due("the first season alone", year.lends(0, 0, 0), NONE);
        CHECK.due("thing(0, 1)", year.thing(0, 1), 0);
        CHECK.due("thing(0, 2)", year.thing(0, 2), 0);
        CHECK.due("not any more", year.lends(0, 4, 0), 0);
        CHECK.due("thing(0, 1)", year.thing(0, 1), NONE);
        CHECK.due("thing(0, 2)", year.thing(0, 2), NONE);
        CHECK.due("the last ahead of the first", year.lends(0, 2, 1), BAD);
        CHECK.due("from 4 to 1", year.lends(0, 4, 1), BAD);
        CHECK.due("from 4 to 4", year.lends(0, 4, 4), BAD);
        CHECK.due("to 4", year.lends(0, 0, 4), BAD);
        CHECK.due("a thing that is not there", year.lends(2, 4, 0), BAD);
        for (int wrong : WRONG) {
            CHECK.due("lends(" + wrong + ", 0, 0)", year.lends(wrong, 0, 0), BAD);
            CHECK.due("lends(" + wrong + ", 4, 0)", year.lends(wrong, 4, 0), BAD);
            CHECK.due("lends(0, " + wrong + ", 0)", year.lends(0, wrong, 0), BAD);
            CHECK.due("lends(0, 0, " + wrong + ")", year.lends(0, 0, wrong), BAD);
        }
        CHECK.due("six were done", year.count(7), 6);
    }

    private static void lendsInAShortYear() {
        MuseumYear year = Check.told("l5 5;t9;");
        CHECK.due("a season that is not there", year.lends(0, 2, 2), BAD);
        CHECK.due("a season that is not there", year.lends(0, 0, 2), BAD);
        CHECK.due("the last season", year.lends(0, 1, 1), NONE);
        CHECK.due("4 is none here too", year.lends(0, 4, 0), 11);
    }

    private static void pairs() {
        MuseumYear year = Check.told("t9;t9;t9;x0 1;");
        CHECK.due("not any more", year.pairs(1, 0), 0);
        CHECK.due("barred", year.pairs(0, 2), 1);
        CHECK.due("thing(0, 3)", year.thing(0, 3), 4);
        CHECK.due("thing(2, 3)", year.thing(2, 3), 1);
        CHECK.due("thing(1, 3)", year.thing(1, 3), 0);
        CHECK.due("barred", year.pairs(2, 1), 1);
        CHECK.due("count(4)", year.count(4), 2);
        CHECK.due("not any more", year.pairs(2, 0), 0);
        CHECK.due("count(4)", year.count(4), 1);
        CHECK.due("a thing and itself", year.pairs(1, 1), BAD);
        CHECK.due("a thing that is not there", year.pairs(0, 3), BAD);
        CHECK.due("a thing that is not there", year.pairs(3, 0), BAD);
        for (int wrong : WRONG) {
            CHECK.due("pairs(" + wrong + ", 0)", year.pairs(wrong, 0), BAD);
            CHECK.due("pairs(0, " + wrong + ")", year.pairs(0, wrong), BAD);
        }
        CHECK.due("four were done", year.count(7), 4);
    }

    private static void rules() {
        MuseumYear year = new MuseumYear();
        int on = 15;
        for (int rule = 0; rule < 4; rule++) {
            on ^= 1 << rule;
            CHECK.due("rules(" + rule + ")", year.rules(rule), 0);
            CHECK.due("count(3)", year.count(3), on);
        }
        CHECK.due("rules(2) again", year.rules(2), 1);
        CHECK.due("count(3)", year.count(3), 4);
        CHECK.due("rules(4)", year.rules(4), BAD);
        for (int wrong : WRONG) {
            CHECK.due("rules(" + wrong + ")", year.rules(wrong), BAD);
        }
        CHECK.due("five were done", year.count(7), 5);
    }

    private static void undoTakesBackEachKind() {
        MuseumYear year = Check.told("t9;t9;x0 1;a1 1 2;");
        year.sets(3, 1, 0);
        year.sets(3, 1, 1);
        year.lends(1, 4, 0);
        year.lends(0, 0, 3);
        year.pairs(0, 1);
        year.rules(0);
        CHECK.due("undo rules", year.undo(), 5);
        CHECK.due("count(3)", year.count(3), 15);
        CHECK.due("undo pairs", year.undo(), 4);
        CHECK.due("count(4)", year.count(4), 1);
        CHECK.due("thing(0, 3)", year.thing(0, 3), 2);
        CHECK.due("undo lends", year.undo(), 3);
        CHECK.due("thing(0, 1)", year.thing(0, 1), NONE);
        CHECK.due("undo lends", year.undo(), 2);
        CHECK.due("thing(1, 1)", year.thing(1, 1), 1);
        CHECK.due("thing(1, 2)", year.thing(1, 2), 2);
        CHECK.due("undo sets", year.undo(), 1);
        CHECK.due("down(3, 1)", year.down(3, 1), 0);
        CHECK.due("undo sets", year.undo(), 0);
        CHECK.due("down(3, 1)", year.down(3, 1), NONE);
        CHECK.due("none", year.undo(), STATE);
    }

    private static void undoKnowsTen() {
        MuseumYear year = Check.told("c1;l0;t9;t9;t9;");
        for (int i = 0; i < 13; i++) {
            year.sets(0, 0, i % 3);
            CHECK.due("how many may be undone", year.count(7), Math.min(i + 1, 10));
        }
        for (int left = 9; left >= 0; left--) {
            CHECK.due("undo", year.undo(), left);
            CHECK.due("down", year.down(0, 0), (left + 2) % 3);
        }
        CHECK.due("older ones are lost", year.undo(), STATE);
        CHECK.due("down", year.down(0, 0), 2);
    }

    private static void undoForgetsWhatWasUndone() {
        MuseumYear year = Check.told("c1;l0;t9;t9;t9;");
        year.sets(0, 0, 0);
        year.sets(0, 0, 1);
        year.undo();
        year.sets(0, 0, 2);
        CHECK.due("undo", year.undo(), 1);
        CHECK.due("down", year.down(0, 0), 0);
        CHECK.due("undo", year.undo(), 0);
        CHECK.due("down", year.down(0, 0), NONE);
    }

    private static void whatIsRefusedIsNotUndone() {
        MuseumYear year = Check.told("c1;l0;t9;t9;");
        year.sets(0, 0, 1);
        year.sets(0, 0, 1);
        year.sets(0, 0, 5);
        year.lends(0, 4, 0);
        year.pairs(0, 0);
        year.rules(4);
        year.keep(0);
        year.sees(0);
        CHECK.due("count(7)", year.count(7), 1);
        CHECK.due("undo", year.undo(), 0);
        CHECK.due("down", year.down(0, 0), NONE);
        CHECK.due("what is seen is not undone", year.count(5), 1);
    }
}
