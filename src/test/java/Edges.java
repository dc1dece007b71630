import java.io.IOException;
import java.io.UncheckedIOException;
import java.nio.file.Files;
import java.nio.file.Path;
import java.util.ArrayList;
import java.util.HashMap;
import java.util.LinkedHashSet;
import java.util.List;
import java.util.Map;
import java.util.Set;
import java.util.TreeSet;

/**
 * Tests of the edges that the document names, each with a promise's number and a sentence's own words; words that
 * the document has neither in that promise nor ahead of all promises are a fault of the test.
 */
final class Edges {
    /** A new object. */
    static final String NEW = "";
    /** One of each, and all of it nothing. */
    static final String SMALL = "tell c1;l0;t0;";
    /** Four things, three seasons, two cases and a plan; both images, some done, some seen, a text without fault. */
    static final String RICH = "tell l7 5 9;t30;t14;t21;t9;x0 1;a3 0 0; | sets(0, 0, 2) | keep(0) | rules(2)"
        + " | lends(1, 2, 2) | pairs(2, 3) | rules(2) | sets(2, 1, 0) | keep(1) | pairs(0, 1) | lends(3, 1, 1)"
        + " | rules(1) | 2 times sees(9) | write c1;l8 9;t50;t60;x0 1;a1 0 1;";
    /** Six things, four seasons, two cases, a plan, ten that may be undone, all that can be seen, a whole text. */
    static final String GREAT = "tell l30 0 30 9;t99;t98;t60;t98;t39;t60;x0 1;a5 0 3;x4 5; | 12 times rules(3)"
        + " | sets(3, 1, 5) | rules(1) | keep(0) | sets(0, 0, 4) | sets(1, 0, 4) | lends(0, 0, 3) | keep(1)"
        + " | pairs(2, 3) | pairs(1, 2) | 4 times sees(2) | write c2;l1 2 3;t5;t6;t7;a0 0 0;a1 1 1;a2 2 2;a0 1 2;x0 1;"
        + "x1 2;x2 0;               a1 2 2;a0 0 2;         ";
    /** Two things, two cases, and light for no plan. */
    static final String NO_PLAN = "tell l10 10;t19;t20; | sets(1, 1, 1) | keep(0) | rules(2) | sees(9) | write t1;";

    private static final int[] FAR = {Integer.MIN_VALUE, Integer.MIN_VALUE + 1, -1000000, -256, -64, -33, -32, -31, -10,
        -9, -8, -7, -6, -5, -4, -3, -2, -1, 0, 1, 2, 3, 4, 5, 6, 7, 8, 9, 10, 16, 31, 32, 33, 34, 36, 38, 64, 99, 100,
        128, 255, 256, 257, 1000, 65536, 1000000, 1 << 30, Integer.MAX_VALUE - 1, Integer.MAX_VALUE};

    /** Each looks behind what the calls show at once: what could be undone, images, the text, what was seen. */
    private static final String[] PROBES = {"", "undo", "undo undo", "undo undo undo", "undo undo undo undo undo",
        "undo undo undo undo undo undo undo undo undo", "undo undo undo undo undo undo undo undo undo undo undo",
        "back0", "back1", "back0 back1", "house", "house house", "clear", "forget", "sees9 sees9 sees9", "sees0",
        "rules0 undo undo"};

    private final Check check = new Check();
    private final Set<String> names = new LinkedHashSet<>();
    private final TreeSet<Integer> promises = new TreeSet<>();
    private final Map<String, List<String>> known = new HashMap<>();
    private final String document;

    Edges() {
        try {
            document = Files.readString(Path.of("../shared/DOC.md")).replaceAll("\\s+", " ");
        } catch (IOException e) {
            throw new UncheckedIOException(e);
        }
    }

    private String name(int promise, String sentence) {
        int terms = document.indexOf("## Promise 1:");
        int start = document.indexOf("## Promise " + promise + ":");
        int next = document.indexOf("## ", start + 1);
        boolean isThere = document.substring(start, next).contains(sentence)
            || document.substring(0, terms).contains(sentence);
        String name = "promise " + promise + ", \"" + sentence + "\"";
        check.holds(name + ": the document says so", start > 0 && isThere);
        promises.add(promise);
        names.add(name);
        return name;
    }

    /** Runs of calls, each on an object of its own. */
    void holds(int promise, String sentence, String... runs) {
        String name = name(promise, sentence);
        for (String steps : runs) {
            new Script(check, name).run(steps);
        }
    }

    /** Calls that are refused behind some steps, all of them, and change nothing. */
    void refused(int promise, String sentence, String steps, String... calls) {
        changesNothing(name(promise, sentence), steps, String.join(" | ", calls));
    }

    /** Of a call with one number left open as #: low to high, and some more, are allowed; all others are refused. */
    void bounds(int promise, String sentence, String steps, String call, int low, int high, int... more) {
        String name = name(promise, sentence);
        String refusal = call.startsWith("spent") ? "NO" : "BAD";
        TreeSet<Integer> allowed = new TreeSet<>();
        for (int number : more) {
            allowed.add(number);
        }
        if (low <= high) {
            allowed.add(low);
            allowed.add(high);
        }
        TreeSet<Integer> refused = new TreeSet<>();
        for (int number : FAR) {
            refused.add(number);
        }
        refused.add(low - 1);
        refused.add(high + 1);
        refused.removeIf(number -> number >= low && number <= high || allowed.contains(number));
        StringBuilder calls = new StringBuilder();
        for (int number : refused) {
            calls.append(calls.isEmpty() ? "" : " | ").append(with(call, number)).append(" = ").append(refusal);
        }
        changesNothing(name, steps, calls.toString());
        for (int number : allowed) {
            run(name, steps, with(call, number) + " != " + refusal);
        }
    }

    private static String with(String call, int number) {
        return call.replace("#", Integer.toString(number));
    }

    /** Texts, each behind its fault's place: "3 c1;c1;". */
    void faults(String sentence, String... placesAndTexts) {
        String name = name(4, sentence);
        for (String one : placesAndTexts) {
            int blank = one.indexOf(' ');
            int place = Integer.parseInt(one.substring(0, blank));
            String steps = RICH + " | clear() | write " + one.substring(blank + 1);
            changesNothing(name + ", \"" + one + "\"", steps, "house() = " + (-10 - place));
        }
    }

    /** Texts without fault, each behind its number of items: "1 c1;". */
    void reads(String sentence, String... itemsAndTexts) {
        String name = name(4, sentence);
        for (String one : itemsAndTexts) {
            int blank = one.indexOf(' ');
            String text = one.substring(blank + 1);
            String steps = (text.isEmpty() ? "" : "write " + text + " | ") + "house() = " + one.substring(0, blank);
            run(name + ", \"" + one + "\"", steps, "count(6) = 0");
        }
    }

    /** Two runs of calls behind which nothing that can be asked or done tells one object from the other. */
    void alike(int promise, String sentence, String steps, String others) {
        check.same(name(promise, sentence), "" + all(steps), "" + all(others));
    }

    /** The same, but they can be told apart. */
    void unlike(int promise, String sentence, String steps, String others) {
        check.holds(name(promise, sentence) + ": no difference", !all(steps).equals(all(others)));
    }

    private void run(String name, String... steps) {
        Script script = new Script(check, name);
        for (String some : steps) {
            script.run(some);
        }
    }

    private void changesNothing(String name, String steps, String calls) {
        run(name, steps, calls);
        List<String> ahead = all(steps);
        List<String> behind = all(steps.isEmpty() ? calls : steps + " | " + calls);
        for (int i = 0; i < PROBES.length; i++) {
            check.same(name + ": nothing changes, as (" + PROBES[i] + ") shows", behind.get(i), ahead.get(i));
        }
    }

    /** All that can be known of an object behind some steps; each probe has an object of its own. */
    private List<String> all(String steps) {
        List<String> all = known.get(steps);
        if (all == null) {
            all = new ArrayList<>();
            for (String probe : PROBES) {
                Script script = new Script(new Check(false), steps);
                script.run(steps);
                all.add(answers(script, probe) + script.everything());
            }
            known.put(steps, all);
        }
        return all;
    }

    private static String answers(Script script, String probe) {
        StringBuilder answers = new StringBuilder();
        for (String call : probe.isEmpty() ? new String[0] : probe.split(" ")) {
            String digits = call.replaceAll("\\D", "");
            int number = digits.isEmpty() ? 0 : Integer.parseInt(digits);
            answers.append(call).append(": ").append(script.ask(call.replaceAll("\\d", ""), number)).append("; ");
        }
        return answers.toString();
    }

    /** At the end each promise that the tests are for must have had one. */
    void end(int first, int last) {
        for (int promise = first; promise <= last; promise++) {
            check.holds("promise " + promise + " has a test", promises.contains(promise));
        }
        for (String name : names) {
            System.out.println("tested: " + name);
        }
        check.end();
    }
}
