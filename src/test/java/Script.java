import java.util.regex.Matcher;
import java.util.regex.Pattern;

/**
 * A run of calls on one new object, told as a text of steps parted by " | ":
 * "sets(0, 1, 6) = STATE" asks and holds the answer against what is due, "thing(0, 0) != BAD" against what is not;
 * "rules(3)" asks and must not be refused; "12 times undo() = STATE" asks as often; "write t9" types letters;
 * "tell t9;" types them and reads them; "the plan = 01 23" and "the counts = 2 4 2 15 0 0 0 0" ask for all of it.
 */
final class Script {
    private static final int CALLS_AT_MOST = 512;
    private static final Pattern STEP = Pattern.compile("(?:(\\d+) times )?(\\w+)\\(([^)]*)\\)(?: (!?=) (\\S+))?");

    private final MuseumYear year = new MuseumYear();
    private final Check check;
    private final String name;
    private int calls = 0;

    Script(Check check, String name) {
        this.check = check;
        this.name = name;
    }

    void run(String steps) {
        if (!steps.isEmpty()) {
            for (String step : steps.split(" \\| ")) {
                goThrough(step);
            }
        }
    }

    private void goThrough(String step) {
        if (step.startsWith("write ")) {
            write(step.substring(6));
        } else if (step.startsWith("tell ")) {
            write(step.substring(5));
            int items = ask("house");
            check.holds(name + ": \"" + step + "\" has a fault, " + items, items >= 0);
        } else if (step.startsWith("the plan = ")) {
            check.same(name + ": the plan", plan(), step.substring(11));
        } else if (step.startsWith("the counts = ")) {
            check.same(name + ": the counts", counts(), step.substring(13));
        } else {
            callAndHold(step);
        }
    }

    private void write(String text) {
        for (int i = 0; i < text.length(); i++) {
            int letters = ask("type", text.charAt(i));
            check.holds(name + ": a letter of \"" + text + "\" is refused", letters > 0);
        }
    }

    private void callAndHold(String step) {
        Matcher parts = STEP.matcher(step);
        if (!parts.matches()) {
            throw new IllegalArgumentException("the test's own step can't be read: \"" + step + "\"");
        }
        int times = parts.group(1) == null ? 1 : Integer.parseInt(parts.group(1));
        for (int i = 0; i < times; i++) {
            int answer = ask(parts.group(2), numbers(parts.group(3)));
            String told = name + ": " + step;
            if (parts.group(4) == null) {
                check.holds(told + " is refused, " + answer, !isRefusal(answer));
            } else if (parts.group(4).equals("=")) {
                check.due(told, answer, number(parts.group(5)));
            } else {
                check.holds(told + " answered that", answer != number(parts.group(5)));
            }
        }
    }

    private static boolean isRefusal(int answer) {
        return answer == MuseumYear.BAD || answer == MuseumYear.STATE || answer == MuseumYear.FULL
            || answer == MuseumYear.NO;
    }

    private static int[] numbers(String list) {
        String[] words = list.isBlank() ? new String[0] : list.split(", *");
        int[] numbers = new int[words.length];
        for (int i = 0; i < words.length; i++) {
            numbers[i] = number(words[i]);
        }
        return numbers;
    }

    private static int number(String word) {
        switch (word) {
            case "BAD": return MuseumYear.BAD;
            case "STATE": return MuseumYear.STATE;
            case "FULL": return MuseumYear.FULL;
            case "NONE": return MuseumYear.NONE;
            case "NO": return MuseumYear.NO;
            case "MIN": return Integer.MIN_VALUE;
            case "MAX": return Integer.MAX_VALUE;
            default: return Integer.parseInt(word);
        }
    }

    /** What is asked beyond the document's 512 calls would be held against nothing. */
    int ask(String call, int... numbers) {
        calls++;
        if (calls > CALLS_AT_MOST) {
            throw new IllegalStateException(name + ": the test's own run has more than " + CALLS_AT_MOST + " calls");
        }
        int a = numbers.length > 0 ? numbers[0] : 0;
        int b = numbers.length > 1 ? numbers[1] : 0;
        int c = numbers.length > 2 ? numbers[2] : 0;
        return Calls.answer(year, call, a, b, c);
    }

    private String counts() {
        StringBuilder text = new StringBuilder();
        for (int what = 0; what < 8; what++) {
            text.append(what == 0 ? "" : " ").append(ask("count", what));
        }
        return text.toString();
    }

    private String plan() {
        if (ask("plan", 0, 0) == MuseumYear.NONE) {
            return "none";
        }
        int seasons = ask("count", 1);
        int cases = ask("count", 2);
        StringBuilder text = new StringBuilder();
        for (int season = 0; season < seasons; season++) {
            text.append(season == 0 ? "" : " ");
            for (int box = 0; box < cases; box++) {
                text.append(ask("plan", season, box));
            }
        }
        return text.toString();
    }

    /** What every call that changes nothing answers, in some ninety calls. */
    String everything() {
        StringBuilder text = new StringBuilder(counts());
        for (int t = 0; t < 6; t++) {
            for (int what = 0; what < 4; what++) {
                add(text, "thing", t, what);
            }
            for (int what = 0; what < 3; what++) {
                add(text, "spent", t, what);
            }
            add(text, "dearth", t);
            add(text, "often", t);
        }
        for (int season = 0; season < 4; season++) {
            add(text, "light", season);
            add(text, "shown", season);
            for (int box = 0; box < 2; box++) {
                add(text, "down", season, box);
                add(text, "plan", season, box);
            }
        }
        add(text, "cost", 0);
        add(text, "cost", 1);
        add(text, "needed");
        add(text, "unseen");
        return text.toString();
    }

    private void add(StringBuilder text, String call, int... numbers) {
        text.append(' ').append(call);
        for (int number : numbers) {
            text.append(' ').append(number);
        }
        text.append(": ").append(ask(call, numbers)).append(';');
    }
}
