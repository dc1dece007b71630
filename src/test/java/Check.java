/** Counts the answers that are not due; each test of the project ends through it. */
final class Check {
    private final boolean isTold;
    private int asked = 0;
    private int wrong = 0;

    Check() {
        this(true);
    }

    /** Where a run is gone through again, its faults have been told already. */
    Check(boolean isTold) {
        this.isTold = isTold;
    }

    private void hold(boolean so, String otherwise) {
        asked++;
        if (!so) {
            wrong++;
            if (isTold) {
                System.out.println(otherwise);
            }
        }
    }

    void due(String call, long got, long want) {
        hold(got == want, call + " answered " + got + ", due is " + want);
    }

    void holds(String what, boolean so) {
        due(what, so ? 1 : 0, 1);
    }

    void same(String what, String got, String want) {
        int alike = 0;
        while (alike < Math.min(got.length(), want.length()) && got.charAt(alike) == want.charAt(alike)) {
            alike++;
        }
        int from = Math.max(0, alike - 40);
        hold(got.equals(want), what + ": got \"" + part(got, from) + "\", due is \"" + part(want, from) + "\"");
    }

    private static String part(String text, int from) {
        return text.substring(from, Math.min(text.length(), from + 80));
    }

    void end() {
        System.out.println((asked - wrong) + " of " + asked + " answers are as due");
        if (wrong > 0 || asked == 0) {
            System.exit(1);
        }
    }

    static void type(MuseumYear year, String text) {
        for (int i = 0; i < text.length(); i++) {
            year.type(text.charAt(i));
        }
    }

    /** A museum that has read a text, which must have no fault. */
    static MuseumYear told(String text) {
        MuseumYear year = new MuseumYear();
        type(year, text);
        int answer = year.house();
        if (answer < 0) {
            throw new IllegalStateException("the test's own text has a fault: " + text + " answered " + answer);
        }
        return year;
    }

    /** THE PLAN slot by slot, a figure each, seasons parted by blanks; "none". */
    static String planOf(MuseumYear year) {
        if (year.cost(0) == MuseumYear.NONE) {
            return "none";
        }
        StringBuilder plan = new StringBuilder();
        for (int season = 0; season < year.count(1); season++) {
            if (season > 0) {
                plan.append(' ');
            }
            for (int box = 0; box < year.count(2); box++) {
                plan.append(year.plan(season, box));
            }
        }
        return plan.toString();
    }

    void plan(String what, MuseumYear year, String want) {
        same(what + ": the plan", planOf(year), want);
    }
}
