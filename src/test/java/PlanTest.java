/** Promises 13 to 19: plan, cost, spent, shown, often, needed, dearth. */
public final class PlanTest {
    private static final int BAD = MuseumYear.BAD, NONE = MuseumYear.NONE, NO = MuseumYear.NO;
    private static final int[] WRONG = {Integer.MIN_VALUE, -1000000, -9, -2, -1, 7, 8, 9, 100, Integer.MAX_VALUE};
    private static final Check CHECK = new Check();

    public static void main(String[] args) {
        fewestChangesComeFirst();
        thenLeastMost();
        thenTheFirst();
        eachRuleBindsWhileItIsOn();
        noThingIsInBothCases();
        changesOfEveryNumber();
        everyChangeIsSeenByThePlan();
        wrongNumbers();
        whereThereIsNoPlan();
        spent();
        shown();
        often();
        needed();
        dearth();
        CHECK.end();
    }

    private static void costs(String what, MuseumYear year, int changes, int most) {
        CHECK.due(what + ": changes", year.cost(0), changes);
        CHECK.due(what + ": most", year.cost(1), most);
    }

    private static void fewestChangesComeFirst() {
        MuseumYear year = Check.told("c1;l10 10;t20;t20;");
        CHECK.plan("no change, though two would share the light", year, "0 0");
        costs("no change", year, 0, 20);
        year = Check.told("c1;l10 10;t10;t10;t20;");
        CHECK.plan("no change, though lower things could do it with one", year, "2 2");
        year = Check.told("c1;l1 1 1 1;t2;t1;t1;t3;");
        CHECK.plan("one change", year, "0 0 3 3");
        costs("one change", year, 1, 2);
    }

    private static void thenLeastMost() {
        MuseumYear year = Check.told("c1;l10 5 5;t15;t15;");
        CHECK.plan("10 and 10, not 15 and 5", year, "0 1 1");
        costs("10 and 10", year, 1, 10);
        year = Check.told("c1;l5 5 10;t15;t15;");
        CHECK.plan("the split further on", year, "0 0 1");
        year = Check.told("l0 0 0 0;t0;t0;");
        CHECK.plan("in the dark", year, "01 01 01 01");
        costs("in the dark", year, 0, 0);
    }

    private static void thenTheFirst() {
        CHECK.plan("the lowest things", Check.told("l5;t9;t9;t9;"), "01");
        MuseumYear year = Check.told("l5 5;t5;t99;t99;");
        CHECK.plan("0 can't stay", year, "12 12");
        year.sets(0, 1, 0);
        CHECK.plan("the first case is looked at ahead of the second", year, "10 12");
        year = Check.told("l5 5;t5;t5;t10;");
        CHECK.plan("the earlier season is looked at ahead of the later", year, "02 12");
        costs("the earlier season", year, 1, 10);
    }

    private static void eachRuleBindsWhileItIsOn() {
        MuseumYear year = Check.told("c1;l10;t9;t10;");
        CHECK.plan("LIGHT on", year, "1");
        year.rules(0);
        CHECK.plan("LIGHT off", year, "0");
        costs("LIGHT off", year, 0, 10);
        year = Check.told("l5 5;t99;t99;t99;a0 0 0;");
        CHECK.plan("LOAN on", year, "12 12");
        year.rules(1);
        CHECK.plan("LOAN off", year, "01 01");
        year = Check.told("l5;t99;t99;t99;x0 1;");
        CHECK.plan("BARRED on", year, "02");
        year.rules(2);
        CHECK.plan("BARRED off", year, "01");
        year = Check.told("l5 5;t99;t99;t99;");
        year.sets(1, 1, 0);
        CHECK.plan("SET DOWN on", year, "10 10");
        year.rules(3);
        CHECK.plan("SET DOWN off", year, "01 01");
        year = Check.told("c1;l5 5 5 5;t99;t99;a0 1 2;");
        CHECK.plan("the whole loan", year, "1 1 1 1");
        year.sets(3, 0, 0);
        CHECK.plan("a loan ends", year, "1 1 1 0");
        year = Check.told("c1;l10 10 10;t20;t10;");
        CHECK.plan("light is borne up to the last", year, "0 0 1");
    }

    private static void noThingIsInBothCases() {
        CHECK.plan("one thing, two cases", Check.told("t99;"), "none");
        MuseumYear year = Check.told("l1;t9;t9;");
        year.sets(0, 0, 1);
        year.sets(0, 1, 1);
        CHECK.plan("one thing set down for both", year, "none");
        for (int rule = 0; rule < 3; rule++) {
            year.rules(rule);
        }
        CHECK.plan("not with the other rules off", year, "none");
        CHECK.due("more light is of no use", year.needed(), NONE);
        year.rules(3);
        CHECK.plan("nor are they both there with the rule off", year, "01");
        CHECK.plan("one thing, one case", Check.told("c1;t99;"), "0 0 0 0");
    }

    private static void changesOfEveryNumber() {
        MuseumYear year = Check.told("l1 1 1 1;t99;t99;t99;t99;");
        CHECK.due("none", year.cost(0), 0);
        int[][] downs = {{0, 0, 0}, {1, 0, 2}, {2, 0, 0}, {3, 0, 2}, {0, 1, 1}, {1, 1, 3}, {2, 1, 1}, {3, 1, 3}};
        int[] changes = {0, 1, 2, 3, 3, 4, 5, 6};
        for (int i = 0; i < downs.length; i++) {
            year.sets(downs[i][0], downs[i][1], downs[i][2]);
            CHECK.due("set down " + i, year.cost(0), changes[i]);
        }
        CHECK.plan("all set down", year, "01 23 01 23");
        costs("all set down", year, 6, 2);
    }

    private static void everyChangeIsSeenByThePlan() {
        MuseumYear year = Check.told("c1;l5;t9;t9;");
        CHECK.plan("at first", year, "0");
        year.keep(0);
        year.sets(0, 0, 1);
        CHECK.plan("sets", year, "1");
        year.undo();
        CHECK.plan("undo", year, "0");
        year.lends(0, 0, 0);
        CHECK.plan("lends", year, "1");
        year.rules(1);
        CHECK.plan("rules", year, "0");
        year.rules(1);
        CHECK.plan("rules", year, "1");
        year.back(0);
        CHECK.plan("back", year, "0");
        Check.type(year, "c1;l5;t4;t9;");
        CHECK.plan("typed, not read", year, "0");
        year.house();
        CHECK.plan("house", year, "1");
        year = Check.told("l5;t9;t9;t9;");
        CHECK.plan("ahead of pairs", year, "01");
        year.pairs(1, 0);
        CHECK.plan("pairs", year, "02");
    }

    private static void wrongNumbers() {
        MuseumYear[] years = {Check.told("c1;l5 5;t99;t99;"), Check.told("c1;l5 5;")};
        for (MuseumYear year : years) {
            CHECK.due("plan(2, 0)", year.plan(2, 0), BAD);
            CHECK.due("plan(0, 1)", year.plan(0, 1), BAD);
            CHECK.due("cost(2)", year.cost(2), BAD);
            CHECK.due("spent(2, 0)", year.spent(2, 0), NO);
            CHECK.due("spent(0, 3)", year.spent(0, 3), NO);
            CHECK.due("shown(2)", year.shown(2), BAD);
            CHECK.due("dearth(2)", year.dearth(2), BAD);
            CHECK.due("often(2)", year.often(2), NONE);
            CHECK.due("often(6)", year.often(6), NONE);
            for (int wrong : WRONG) {
                CHECK.due("plan(" + wrong + ", 0)", year.plan(wrong, 0), BAD);
                CHECK.due("plan(0, " + wrong + ")", year.plan(0, wrong), BAD);
                CHECK.due("cost(" + wrong + ")", year.cost(wrong), BAD);
                CHECK.due("spent(" + wrong + ", 0)", year.spent(wrong, 0), NO);
                CHECK.due("spent(0, " + wrong + ")", year.spent(0, wrong), NO);
                CHECK.due("shown(" + wrong + ")", year.shown(wrong), BAD);
                CHECK.due("often(" + wrong + ")", year.often(wrong), wrong < 0 ? BAD : NONE);
                CHECK.due("dearth(" + wrong + ")", year.dearth(wrong), BAD);
            }
        }
    }

    private static void whereThereIsNoPlan() {
        MuseumYear year = Check.told("l10 10;t19;t20;");
        CHECK.due("plan", year.plan(1, 1), NONE);
        costs("no plan", year, NONE, NONE);
        for (int what = 0; what < 3; what++) {
            CHECK.due("spent", year.spent(1, what), NO);
        }
        CHECK.due("shown", year.shown(0), NONE);
        CHECK.due("often", year.often(0), NONE);
        CHECK.due("dearth", year.dearth(0), NONE);
        CHECK.due("needed", year.needed(), 1);
    }

    private static void spent() {
        MuseumYear year = Check.told("c1;l10 5 6;t15;t20;t3;");
        CHECK.plan("ahead of spent", year, "0 1 1");
        int[][] want = {{10, 5, 1}, {11, 9, 6}, {0, 3, 0}};
        for (int t = 0; t < 3; t++) {
            for (int what = 0; what < 3; what++) {
                CHECK.due("spent(" + t + ", " + what + ")", year.spent(t, what), want[t][what]);
            }
        }
        year = Check.told("l30 30 30 30;t0;t7;");
        year.rules(0);
        CHECK.due("spent, LIGHT off", year.spent(0, 0), 120);
        CHECK.due("left, LIGHT off", year.spent(0, 1), -120);
        CHECK.due("left, LIGHT off", year.spent(1, 1), -113);
        CHECK.due("seasons, LIGHT off", year.spent(1, 2), 15);
    }

    private static void shown() {
        MuseumYear year = Check.told("l5 5;t5;t5;t10;");
        CHECK.due("shown(0)", year.shown(0), 5);
        CHECK.due("shown(1)", year.shown(1), 6);
        CHECK.due("shown, one case", Check.told("c1;l5;t0;t0;t5;").shown(0), 4);
    }

    private static void often() {
        MuseumYear year = Check.told("c1;l10 5 5;t15;t3;t15;t4;");
        CHECK.plan("ahead of often", year, "0 2 2");
        int[] want = {2, 0, 1, 3, NONE, NONE};
        for (int k = 0; k < want.length; k++) {
            CHECK.due("often(" + k + ")", year.often(k), want[k]);
        }
        year = Check.told("l5 5;t5;t5;t10;");
        CHECK.due("two seasons", year.often(0), 2);
        CHECK.due("like ones, the lower", year.often(1), 0);
        CHECK.due("like ones, the higher", year.often(2), 1);
    }

    private static void needs(String text, int want) {
        CHECK.due("needed, " + text, Check.told(text).needed(), want);
    }

    private static void needed() {
        needs("c1;l10;t10;", 0);
        needs("c1;l10;t9;", 1);
        needs("c1;l10;t3;t4;", 6);
        needs("l10;t3;t4;", 7);
        needs("c1;l10 10;t3;t5;", 7);
        needs("c1;l30 30 30 9;t0;", 99);
        needs("c1;l30 30 30 10;t0;", NONE);
        needs("l30 30 30 30;t21;t99;", 99);
        needs("l30 30 30 30;t20;t99;", NONE);
        needs("l10 10;t5;t5;t5;x0 1;", 15);
        needs("l10 10;t5;t5;t5;x0 1;x1 2;x0 2;", NONE);
        needs("l10 10;t0;t0;t0;a0 1 1;a1 0 0;", 20);
        needs("", NONE);
        MuseumYear year = Check.told("c1;l10;t3;t4;");
        year.needed();
        CHECK.due("nothing is changed", year.cost(0), NONE);
        CHECK.due("nothing is changed", year.thing(0, 0), 3);
        year.rules(0);
        CHECK.due("LIGHT off", year.needed(), 0);
        year.lends(0, 0, 0);
        year.lends(1, 0, 0);
        CHECK.due("LIGHT off, all on loan", year.needed(), NONE);
    }

    private static void dearth() {
        MuseumYear year = Check.told("c1;l10 10;t20;t10;t10;");
        CHECK.due("one change more", year.dearth(0), 1);
        CHECK.due("of no account", year.dearth(1), 0);
        CHECK.due("of no account", year.dearth(2), 0);
        CHECK.plan("nothing is changed", year, "0 0");
        year.sets(0, 0, 0);
        CHECK.due("what is set down can't be broken", year.dearth(0), NONE);
        year.rules(3);
        CHECK.due("but for the rule", year.dearth(0), 1);
        year = Check.told("c1;l10 10 10 10;t40;t10;t10;t10;t10;");
        CHECK.due("three changes more", year.dearth(0), 3);
        year = Check.told("c1;l10;t10;t10;");
        CHECK.due("another does as well", year.dearth(0), 0);
        year = Check.told("c1;l10 10 10;t20;t10;t10;");
        CHECK.due("one change there is", year.cost(0), 1);
        CHECK.due("two there would be", Check.told("c1;l10 10 10;t20;t10;t10;t10;").dearth(0), 1);
        CHECK.due("one yet", year.dearth(2), 0);
        CHECK.due("two things for three seasons", year.dearth(0), NONE);
        CHECK.due("no thing left", Check.told("c1;l10;t10;").dearth(0), NONE);
        CHECK.due("a case stays empty", Check.told("l10;t10;t10;").dearth(1), NONE);
    }
}
