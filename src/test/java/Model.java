import java.util.ArrayList;
import java.util.Arrays;
import java.util.List;
import java.util.TreeSet;

/**
 * The document in its plainest form, to hold the class against: every plan is gone through, with no thought
 * of speed. It shares no code and no way of working with the class.
 */
final class Model {
    private static final int BAD = -1, STATE = -2, FULL = -3, NONE = -9, NO = -1000000;

    /** What an image keeps; what is set down by season and case, loans as {first, last} or null. */
    private static final class Image {
        Integer[][] down = new Integer[4][2];
        int[][] loans = new int[6][];
        TreeSet<String> barred = new TreeSet<>();
        boolean[] rules = {true, true, true, true};

        Image copy() {
            Image other = new Image();
            for (int season = 0; season < 4; season++) {
                other.down[season] = down[season].clone();
            }
            for (int t = 0; t < 6; t++) {
                other.loans[t] = loans[t] == null ? null : loans[t].clone();
            }
            other.barred = new TreeSet<>(barred);
            other.rules = rules.clone();
            return other;
        }
    }

    /** A plan with what it costs. */
    private static final class Best {
        int[][] plan;
        int changes;
        int most;
    }

    private String text = "";
    private List<Integer> bears = new ArrayList<>();
    private List<Integer> lights = new ArrayList<>(List.of(5, 5, 5, 5));
    private int cases = 2;
    private Image now = new Image();
    private List<Image> past = new ArrayList<>();
    private List<Integer> seen = new ArrayList<>();
    private Image[] images = new Image[2];
    /** By the broken thing (6: none); found anew behind each change. */
    private Best[] known = new Best[7];
    private boolean[] isKnown = new boolean[7];

    int type(int letter) {
        if (letter < 0 || letter > 255) {
            return BAD;
        }
        if (text.length() == 100) {
            return FULL;
        }
        text += (char) letter;
        return text.length();
    }

    int clear() {
        int length = text.length();
        text = "";
        return length;
    }

    // ---- the text: all tokens first, then items by their shape

    private record Token(int place, String word) {
        int number() {
            boolean figures = word.matches("[0-9]+");
            boolean fits = figures && word.length() <= 2 && (word.length() == 1 || word.charAt(0) != '0');
            return fits ? Integer.parseInt(word) : -1;
        }
    }

    private static List<Token> tokens(String text) {
        List<Token> tokens = new ArrayList<>();
        for (int i = 0; i < text.length(); ) {
            int end = i;
            while (end < text.length() && "0123456789".indexOf(text.charAt(end)) >= 0) {
                end++;
            }
            end = Math.max(end, i + 1);
            if (text.charAt(i) != ' ') {
                tokens.add(new Token(i, text.substring(i, end)));
            }
            i = end;
        }
        return tokens;
    }

    /** Which words may follow those of an item so far, in a house told so far. */
    private static boolean mayFollow(Model told, List<String> heads, List<Integer> item, String head, Token next) {
        int n = next.number();
        int things = told.bears.size();
        int seasons = told.lights.size();
        boolean ends = next.word().equals(";");
        if (head.isEmpty()) {
            switch (next.word()) {
                case "c":
                case "l":
                    return !heads.contains(next.word()) && things == 0;
                case "t":
                    return things < 6;
                default:
                    return next.word().equals("x") || next.word().equals("a");
            }
        }
        int size = item.size();
        switch (head) {
            case "c":
                return size == 0 ? n == 1 || n == 2 : ends;
            case "l":
                return size > 0 && ends || size < 4 && n >= 0 && n <= 30;
            case "t":
                return size == 0 ? n >= 0 : ends;
            case "x":
                return size == 2 ? ends : n >= 0 && n < things
                        && (size == 0 || n != item.get(0) && !told.now.barred.contains(pair(n, item.get(0))));
            default:
                return size == 3 ? ends : n >= (size == 2 ? item.get(1) : 0) && n < (size == 0 ? things : seasons);
        }
    }

    private void tell(String head, List<Integer> item) {
        switch (head) {
            case "c":
                cases = item.get(0);
                break;
            case "l":
                lights = new ArrayList<>(item);
                break;
            case "t":
                bears.add(item.get(0));
                break;
            case "x":
                now.barred.add(pair(item.get(0), item.get(1)));
                break;
            default:
                now.loans[item.get(0)] = new int[] {item.get(1), item.get(2)};
        }
    }

    int house() {
        Model told = new Model();
        List<String> heads = new ArrayList<>();
        List<Integer> item = new ArrayList<>();
        String head = "";
        for (Token token : tokens(text)) {
            if (!mayFollow(told, heads, item, head, token)) {
                return -10 - token.place();
            }
            if (head.isEmpty()) {
                head = token.word();
            } else if (token.word().equals(";")) {
                told.tell(head, item);
                heads.add(head);
                item.clear();
                head = "";
            } else {
                item.add(token.number());
            }
        }
        if (!head.isEmpty()) {
            return -10 - text.length();
        }
        text = "";
        bears = told.bears;
        lights = told.lights;
        cases = told.cases;
        now = told.now;
        past.clear();
        seen.clear();
        images = new Image[2];
        changed();
        return heads.size();
    }

    int thing(int t, int what) {
        if (!isThing(t) || what < 0 || what > 3) {
            return BAD;
        }
        if (what == 0) {
            return bears.get(t);
        }
        if (what < 3) {
            return now.loans[t] == null ? NONE : now.loans[t][what - 1];
        }
        int bits = 0;
        for (int other = 0; other < 6; other++) {
            bits += now.barred.contains(pair(t, other)) ? 1 << other : 0;
        }
        return bits;
    }

    int light(int season) {
        return isSeason(season) ? lights.get(season) : BAD;
    }

    int down(int season, int box) {
        if (!isSeason(season) || !isCase(box)) {
            return BAD;
        }
        return now.down[season][box] == null ? NONE : now.down[season][box];
    }

    // ---- what is done

    int sets(int season, int box, int t) {
        if (!isSeason(season) || !isCase(box) || !(isThing(t) || t == 6)) {
            return BAD;
        }
        int was = down(season, box);
        if (was == (t == 6 ? NONE : t)) {
            return STATE;
        }
        doing();
        now.down[season][box] = t == 6 ? null : (Integer) t;
        return was;
    }

    int lends(int t, int from, int to) {
        boolean none = from == 4 && to == 0;
        if (!isThing(t) || !none && !(isSeason(from) && isSeason(to) && to >= from)) {
            return BAD;
        }
        int[] wanted = none ? null : new int[] {from, to};
        int[] was = now.loans[t];
        if (Arrays.equals(was, wanted)) {
            return STATE;
        }
        doing();
        now.loans[t] = wanted;
        return was == null ? NONE : 10 * was[0] + was[1];
    }

    int pairs(int t, int other) {
        if (!isThing(t) || !isThing(other) || t == other) {
            return BAD;
        }
        doing();
        if (!now.barred.remove(pair(t, other))) {
            now.barred.add(pair(t, other));
            return 1;
        }
        return 0;
    }

    int rules(int rule) {
        if (rule < 0 || rule > 3) {
            return BAD;
        }
        doing();
        now.rules[rule] = !now.rules[rule];
        return now.rules[rule] ? 1 : 0;
    }

    int undo() {
        if (past.isEmpty()) {
            return STATE;
        }
        now = past.remove(past.size() - 1);
        changed();
        return past.size();
    }

    // ---- the plan

    int plan(int season, int box) {
        if (!isSeason(season) || !isCase(box)) {
            return BAD;
        }
        return best(6) == null ? NONE : best(6).plan[season][box];
    }

    int cost(int what) {
        if (what != 0 && what != 1) {
            return BAD;
        }
        return best(6) == null ? NONE : what == 0 ? best(6).changes : best(6).most;
    }

    int spent(int t, int what) {
        if (!isThing(t) || what < 0 || what > 2 || best(6) == null) {
            return NO;
        }
        int light = lightOf(best(6).plan, t);
        int bits = 0;
        for (int season = 0; season < lights.size(); season++) {
            bits += shows(best(6).plan[season], t) ? 1 << season : 0;
        }
        return new int[] {light, bears.get(t) - light, bits}[what];
    }

    int shown(int season) {
        if (!isSeason(season)) {
            return BAD;
        }
        if (best(6) == null) {
            return NONE;
        }
        int bits = 0;
        for (int t : best(6).plan[season]) {
            bits |= 1 << t;
        }
        return bits;
    }

    int often(int k) {
        if (k < 0) {
            return BAD;
        }
        if (best(6) == null || k >= bears.size()) {
            return NONE;
        }
        List<Integer> things = new ArrayList<>();
        for (int t = 0; t < bears.size(); t++) {
            things.add(t);
        }
        // The sort is stable: of like ones the lower stays ahead.
        things.sort((a, b) -> Integer.bitCount(spent(b, 2)) - Integer.bitCount(spent(a, 2)));
        return things.get(k);
    }

    int needed() {
        int least = 100;
        for (int[][] plan : plans(6)) {
            int lacks = 0;
            for (int t = 0; t < bears.size() && now.rules[0]; t++) {
                lacks = Math.max(lacks, lightOf(plan, t) - bears.get(t));
            }
            least = Math.min(least, lacks);
        }
        return least > 99 ? NONE : least;
    }

    int dearth(int t) {
        if (!isThing(t)) {
            return BAD;
        }
        return best(6) == null || best(t) == null ? NONE : best(t).changes - best(6).changes;
    }

    // ---- which thing

    int sees(int n) {
        if ("0 1 2 3 4 5 6 9".indexOf(Integer.toString(n)) < 0) {
            return BAD;
        }
        if (seen.size() == 4) {
            return FULL;
        }
        seen.add(n);
        return seen.size();
    }

    int forget() {
        int was = seen.size();
        seen.clear();
        return was;
    }

    int unseen() {
        int bits = 0;
        for (int t = 0; t < bears.size(); t++) {
            boolean all = true;
            for (int n : seen) {
                all &= n == (best(t) == null ? 9 : best(t).changes);
            }
            bits += all ? 1 << t : 0;
        }
        return bits;
    }

    // ---- images

    int keep(int image) {
        if (image != 0 && image != 1) {
            return BAD;
        }
        images[image] = now.copy();
        return bears.size();
    }

    int back(int image) {
        if (image != 0 && image != 1) {
            return BAD;
        }
        if (images[image] == null) {
            return STATE;
        }
        now = images[image].copy();
        past.clear();
        changed();
        return bears.size();
    }

    int count(int what) {
        int on = 0;
        for (int rule = 0; rule < 4; rule++) {
            on += now.rules[rule] ? 1 << rule : 0;
        }
        int[] all = {bears.size(), lights.size(), cases, on, now.barred.size(), seen.size(), text.length(), past.size()};
        return what < 0 || what >= all.length ? BAD : all[what];
    }

    // ---- behind the calls

    private boolean isThing(int t) {
        return t >= 0 && t < bears.size();
    }

    private boolean isSeason(int season) {
        return season >= 0 && season < lights.size();
    }

    private boolean isCase(int box) {
        return box >= 0 && box < cases;
    }

    private static String pair(int a, int b) {
        return Math.min(a, b) + "-" + Math.max(a, b);
    }

    private void doing() {
        past.add(now.copy());
        if (past.size() > 10) {
            past.remove(0);
        }
        changed();
    }

    private void changed() {
        isKnown = new boolean[7];
    }

    private static boolean shows(int[] season, int t) {
        return season[0] == t || season[season.length - 1] == t;
    }

    private int lightOf(int[][] plan, int t) {
        int light = 0;
        for (int season = 0; season < plan.length; season++) {
            light += shows(plan[season], t) ? lights.get(season) : 0;
        }
        return light;
    }

    /** Each way to fill one season by itself, in order. */
    private List<int[]> waysOf(int season, int broken) {
        List<int[]> ways = new ArrayList<>();
        for (int a = 0; a < bears.size(); a++) {
            for (int b = 0; b < bears.size(); b++) {
                int[] way = cases == 2 ? new int[] {a, b} : new int[] {a};
                boolean fine = cases == 2 ? a != b : b == 0;
                fine &= cases == 1 || !now.rules[2] || !now.barred.contains(pair(a, b));
                for (int box = 0; box < cases; box++) {
                    int[] loan = now.loans[way[box]];
                    fine &= way[box] != broken;
                    fine &= !now.rules[1] || loan == null || season < loan[0] || season > loan[1];
                    fine &= !now.rules[3] || now.down[season][box] == null || now.down[season][box] == way[box];
                }
                if (fine) {
                    ways.add(way);
                }
            }
        }
        return ways;
    }

    /** Every filling that keeps the rules but LIGHT, in order. */
    private List<int[][]> plans(int broken) {
        List<int[][]> plans = new ArrayList<>();
        plans.add(new int[0][]);
        for (int season = 0; season < lights.size(); season++) {
            List<int[]> ways = waysOf(season, broken);
            List<int[][]> longer = new ArrayList<>(plans.size() * ways.size());
            for (int[][] plan : plans) {
                for (int[] way : ways) {
                    int[][] grown = Arrays.copyOf(plan, season + 1);
                    grown[season] = way;
                    longer.add(grown);
                }
            }
            plans = longer;
        }
        return plans;
    }

    private static int changesOf(int[][] plan) {
        int changes = 0;
        for (int season = 1; season < plan.length; season++) {
            for (int box = 0; box < plan[season].length; box++) {
                changes += plan[season][box] != plan[season - 1][box] ? 1 : 0;
            }
        }
        return changes;
    }

    private Best best(int broken) {
        if (!isKnown[broken]) {
            isKnown[broken] = true;
            known[broken] = null;
            for (int[][] plan : plans(broken)) {
                int most = 0;
                boolean borne = true;
                for (int t = 0; t < bears.size(); t++) {
                    int light = lightOf(plan, t);
                    borne &= !now.rules[0] || light <= bears.get(t);
                    most = Math.max(most, light);
                }
                Best old = known[broken];
                int changes = changesOf(plan);
                if (borne && (old == null || changes < old.changes || changes == old.changes && most < old.most)) {
                    known[broken] = new Best();
                    known[broken].plan = plan;
                    known[broken].changes = changes;
                    known[broken].most = most;
                }
            }
        }
        return known[broken];
    }
}
