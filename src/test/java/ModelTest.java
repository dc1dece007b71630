import java.util.Random;

/** All promises: runs of random calls, each answer held against the model's. */
public final class ModelTest {
    private static final Check CHECK = new Check();
    private static final String[] NAMES = {"type", "clear", "house", "thing", "light", "down", "sets", "lends",
        "pairs", "rules", "undo", "plan", "cost", "spent", "shown", "often", "needed", "dearth", "sees", "forget",
        "unseen", "keep", "back", "count"};
    /** How often each call comes, by its name's place: what changes things comes often, what reads a text seldom. */
    private static final int[] WEIGHTS = {0, 0, 0, 2, 1, 2, 8, 8, 8, 4, 5, 6, 3, 4, 2, 3, 2, 4, 3, 1, 3, 2, 2, 3};

    private MuseumYear year = new MuseumYear();
    private Model model = new Model();
    private final Random random;
    private final String run;

    private ModelTest(long seed) {
        random = new Random(seed);
        run = "run " + seed + ", ";
    }

    /** Arguments: the first seed and how many; by default some that take about a minute. */
    public static void main(String[] args) {
        long first = args.length > 0 ? Long.parseLong(args[0]) : 1;
        long many = args.length > 1 ? Long.parseLong(args[1]) : 1000;
        for (long seed = first; seed < first + many; seed++) {
            new ModelTest(seed).goThrough(60);
        }
        for (long seed = first; seed < first + 20 * many; seed++) {
            new ModelTest(seed).readTexts();
        }
        CHECK.end();
    }

    private void goThrough(int calls) {
        tell(fullText());
        int all = 0;
        for (int weight : WEIGHTS) {
            all += weight;
        }
        for (int i = 0; i < calls; i++) {
            int pick = random.nextInt(all);
            int call = 0;
            while (pick >= WEIGHTS[call]) {
                pick -= WEIGHTS[call];
                call++;
            }
            ask(call, number(call, 0), number(call, 1), number(call, 2));
            if (random.nextInt(60) == 0) {
                tell(random.nextInt(3) == 0 ? brokenText() : fullText());
            }
        }
        askAll();
    }

    private void readTexts() {
        for (int i = 0; i < 4; i++) {
            tell(random.nextBoolean() ? brokenText() : fullText());
            ask(23, 6, 0, 0);
            if (random.nextInt(3) > 0) {
                ask(1, 0, 0, 0);
            }
        }
        for (int what = 0; what < 8; what++) {
            ask(23, what, 0, 0);
        }
        for (int n = 0; n < 24; n++) {
            ask(3, n / 4, n % 4, 0);
            ask(4, n % 4, 0, 0);
        }
    }

    private void askAll() {
        for (int n = 0; n < 8; n++) {
            ask(23, n, 0, 0);
            ask(12, n, 0, 0);
            ask(14, n, 0, 0);
            ask(15, n, 0, 0);
            ask(17, n, 0, 0);
            ask(11, n / 2, n % 2, 0);
            ask(5, n / 2, n % 2, 0);
        }
        for (int n = 0; n < 24; n++) {
            ask(3, n / 4, n % 4, 0);
            ask(13, n / 4, n % 4, 0);
        }
        ask(16, 0, 0, 0);
        ask(20, 0, 0, 0);
    }

    /** Mostly what may be, now and then what may not. */
    private int number(int call, int place) {
        if (random.nextInt(25) == 0) {
            int[] wild = {-1, 4, 5, 6, 7, 8, 9, 10, -9, Integer.MIN_VALUE, Integer.MAX_VALUE};
            return wild[random.nextInt(wild.length)];
        }
        String name = NAMES[call];
        boolean isSetDown = name.equals("sets");
        if (isSetDown && place == 2) {
            return random.nextInt(7);
        }
        if (isSetDown || name.equals("down") || name.equals("plan")) {
            return random.nextInt(place == 0 ? 4 : 2);
        }
        if (name.equals("lends") && place > 0) {
            return random.nextInt(place == 1 ? 5 : 4);
        }
        if (name.equals("sees")) {
            int[] numbers = {0, 0, 1, 1, 2, 3, 4, 5, 6, 9, 9};
            return numbers[random.nextInt(numbers.length)];
        }
        if (name.equals("keep") || name.equals("back")) {
            return random.nextInt(2);
        }
        if (name.equals("rules") || name.equals("light") || name.equals("shown")) {
            return random.nextInt(4);
        }
        return place == 1 && !name.equals("pairs") ? random.nextInt(4) : random.nextInt(name.equals("count") ? 8 : 6);
    }

    private void tell(String text) {
        for (int i = 0; i < text.length(); i++) {
            ask(0, text.charAt(i), 0, 0);
        }
        ask(2, 0, 0, 0);
    }

    private String blank() {
        return random.nextInt(8) == 0 ? " ".repeat(1 + random.nextInt(2)) : "";
    }

    /** A text without fault (but for its length): few things that bear little, or many that bear much. */
    private String fullText() {
        StringBuilder text = new StringBuilder();
        int cases = random.nextInt(3) == 0 ? 1 : 2;
        if (cases == 1 || random.nextBoolean()) {
            text.append("c").append(blank()).append(cases).append(";");
        }
        int seasons = random.nextInt(3) == 0 ? 4 : 1 + random.nextInt(4);
        int[] brightness = {1, 4, 11, 31};
        int bright = brightness[random.nextInt(4)];
        if (seasons < 4 || random.nextInt(4) > 0) {
            text.append("l");
            for (int season = 0; season < seasons; season++) {
                text.append(random.nextInt(bright)).append(season + 1 < seasons ? " " : blank());
            }
            text.append(";");
        } else {
            bright = 6;
        }
        // Six things in two cases through four seasons are 810,000 plans: seldom, for the model's sake.
        boolean isLarge = cases == 2 && seasons == 4;
        int fewThings = isLarge ? 2 + random.nextInt(3) : random.nextInt(7);
        int things = isLarge && random.nextInt(3) == 0 ? 5 + random.nextInt(2) : fewThings;
        int borne = Math.min(100, 1 + bright * (1 + random.nextInt(4)));
        for (int t = 0; t < things; t++) {
            text.append("t").append(blank()).append(random.nextInt(borne)).append(";").append(blank());
        }
        boolean[][] barred = new boolean[6][6];
        for (int i = random.nextInt(5); i > 0 && things > 1; i--) {
            int a = random.nextInt(things);
            int b = random.nextInt(things);
            if (a != b && !barred[a][b] && random.nextBoolean()) {
                barred[a][b] = true;
                barred[b][a] = true;
                text.append("x").append(a).append(" ").append(b).append(";");
            } else {
                int from = random.nextInt(seasons);
                int to = from + random.nextInt(seasons - from);
                text.append("a").append(a).append(" ").append(from).append(" ").append(to).append(";");
            }
        }
        return text.toString();
    }

    /** A text with a letter or two put in, left out or changed: mostly with a fault. */
    private String brokenText() {
        StringBuilder text = new StringBuilder(fullText());
        String letters = "cltxa;; 00112233456789q\tT,-" + (char) 0 + (char) 255;
        for (int i = 1 + random.nextInt(2); i > 0; i--) {
            int place = random.nextInt(text.length() + 1);
            char letter = letters.charAt(random.nextInt(letters.length()));
            int how = random.nextInt(4);
            if (how == 0 || place == text.length()) {
                text.insert(place, letter);
            } else if (how == 1) {
                text.deleteCharAt(place);
            } else if (how == 2) {
                text.setCharAt(place, letter);
            } else {
                text.setLength(place);
            }
        }
        return text.toString();
    }

    private void ask(int call, int a, int b, int c) {
        String told = run + NAMES[call] + "(" + a + ", " + b + ", " + c + ")";
        CHECK.due(told, Calls.answer(year, NAMES[call], a, b, c), answerOfModel(call, a, b, c));
    }

    private int answerOfModel(int call, int a, int b, int c) {
        switch (NAMES[call]) {
            case "type": return model.type(a);
            case "clear": return model.clear();
            case "house": return model.house();
            case "thing": return model.thing(a, b);
            case "light": return model.light(a);
            case "down": return model.down(a, b);
            case "sets": return model.sets(a, b, c);
            case "lends": return model.lends(a, b, c);
            case "pairs": return model.pairs(a, b);
            case "rules": return model.rules(a);
            case "undo": return model.undo();
            case "plan": return model.plan(a, b);
            case "cost": return model.cost(a);
            case "spent": return model.spent(a, b);
            case "shown": return model.shown(a);
            case "often": return model.often(a);
            case "needed": return model.needed();
            case "dearth": return model.dearth(a);
            case "sees": return model.sees(a);
            case "forget": return model.forget();
            case "unseen": return model.unseen();
            case "keep": return model.keep(a);
            case "back": return model.back(a);
            default: return model.count(a);
        }
    }
}
