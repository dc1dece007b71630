/** Promises 20 to 22: sees, forget, unseen. */
public final class WhichThingTest {
    private static final int BAD = MuseumYear.BAD, FULL = MuseumYear.FULL;
    private static final Check CHECK = new Check();

    public static void main(String[] args) {
        sees();
        forget();
        unseen();
        unseenIsAsThingsAreNow();
        unseenWhereThereIsNoPlan();
        unseenWithSixChanges();
        CHECK.end();
    }

    private static void sees() {
        MuseumYear year = new MuseumYear();
        for (int wrong : new int[] {Integer.MIN_VALUE, -9, -1, 7, 8, 10, 100, Integer.MAX_VALUE}) {
            CHECK.due("sees(" + wrong + ")", year.sees(wrong), BAD);
        }
        CHECK.due("nothing is seen", year.count(5), 0);
        CHECK.due("sees(0)", year.sees(0), 1);
        CHECK.due("sees(6)", year.sees(6), 2);
        CHECK.due("sees(9)", year.sees(9), 3);
        CHECK.due("sees(9)", year.sees(9), 4);
        CHECK.due("a fifth", year.sees(9), FULL);
        CHECK.due("BAD comes ahead of FULL", year.sees(7), BAD);
        CHECK.due("count(5)", year.count(5), 4);
    }

    private static void forget() {
        MuseumYear year = Check.told("c1;l10 10;t20;t10;t10;");
        CHECK.due("nothing", year.forget(), 0);
        year.sees(1);
        year.sees(2);
        CHECK.due("two", year.forget(), 2);
        CHECK.due("nothing any more", year.forget(), 0);
        CHECK.due("count(5)", year.count(5), 0);
        CHECK.due("all things may be it", year.unseen(), 7);
        CHECK.due("there is room again", year.sees(1), 1);
    }

    private static void unseen() {
        MuseumYear year = Check.told("c1;l10 10;t20;t10;t10;");
        CHECK.due("nothing seen", year.unseen(), 7);
        year.sees(0);
        CHECK.due("0 changes", year.unseen(), 6);
        year.sees(0);
        CHECK.due("0 changes twice", year.unseen(), 6);
        year.sees(1);
        CHECK.due("0 and 1", year.unseen(), 0);
        year.forget();
        year.sees(1);
        CHECK.due("1 change", year.unseen(), 1);
        year.forget();
        year.sees(9);
        CHECK.due("no plan", year.unseen(), 0);
        CHECK.due("no things", new MuseumYear().unseen(), 0);
    }

    private static void unseenIsAsThingsAreNow() {
        MuseumYear year = Check.told("c1;l10 10;t20;t10;t10;");
        year.sees(1);
        CHECK.due("ahead of the loan", year.unseen(), 1);
        year.lends(1, 0, 0);
        CHECK.due("1 is away at first", year.unseen(), 1);
        year.lends(2, 0, 0);
        CHECK.due("2 is away at first too", year.unseen(), 0);
        CHECK.due("what was seen stays", year.count(5), 1);
        year.forget();
        year.sees(9);
        CHECK.due("no plan without 0", year.unseen(), 1);
        year.undo();
        CHECK.due("undone", year.unseen(), 0);
    }

    private static void unseenWhereThereIsNoPlan() {
        MuseumYear year = Check.told("l10;t10;t9;");
        year.sees(9);
        CHECK.due("any thing", year.unseen(), 3);
        year.sees(0);
        CHECK.due("none", year.unseen(), 0);
    }

    private static void unseenWithSixChanges() {
        MuseumYear year = Check.told("l1 1 1 1;t99;t99;t99;t99;t99;t99;");
        for (int season = 0; season < 4; season++) {
            year.sets(season, 0, season % 2 == 0 ? 0 : 2);
            year.sets(season, 1, season % 2 == 0 ? 1 : 3);
        }
        year.sees(6);
        CHECK.due("6 changes", year.unseen(), 48);
        year.forget();
        year.sees(9);
        CHECK.due("what is set down is needed", year.unseen(), 15);
    }
}
