import java.util.Arrays;

/** Cases of a museum filled through a year, as ../shared/DOC.md says it. */
public final class MuseumYear {
    public static final int BAD = -1, STATE = -2, FULL = -3, NONE = -9;
    public static final int NO = -1000000;

    private static final int THINGS_AT_MOST = 6, SEASONS_AT_MOST = 4, CASES_AT_MOST = 2;
    private static final int SLOTS_AT_MOST = SEASONS_AT_MOST * CASES_AT_MOST;
    private static final int LIGHT_AT_MOST = 30, BEARS_AT_MOST = 99, NUMBER_AT_MOST = 99;
    private static final int LIGHT_AT_FIRST = 5;
    private static final int LETTERS_AT_MOST = 100, LETTER_AT_MOST = 255, SEEN_AT_MOST = 4;
    private static final int KNOWN_AT_MOST = 10, IMAGES = 2, MORE_AT_MOST = 99;
    private static final int RULE_LIGHT = 0, RULE_LOAN = 1, RULE_BARRED = 2, RULE_DOWN = 3, RULES = 4;
    private static final int ALL_RULES = (1 << RULES) - 1, ALL_THINGS = (1 << THINGS_AT_MOST) - 1;
    private static final int NO_THING = 6, NO_SEASON = 4;
    private static final int CHANGES_AT_MOST = 6, NO_PLAN_SEEN = 9;
    private static final int FAULT_BASE = -10;
    /** Above every sum of LIGHTS, so that it limits nothing. */
    private static final int ENDLESS = 1000;

    private final int[] letters = new int[LETTERS_AT_MOST];
    private int written = 0;
    private final Told told = new Told();
    private final Wishes wishes = new Wishes();
    private final Reader reader = new Reader(letters);
    private final History history = new History();
    private final Wishes[] images = new Wishes[IMAGES];
    private int imagesKept = 0;
    private final int[] seen = new int[SEEN_AT_MOST];
    private int seenSoFar = 0;
    private final Year year = new Year(told, wishes);

    public MuseumYear() {
        for (int image = 0; image < IMAGES; image++) {
            images[image] = new Wishes();
        }
    }

    // ---- what is told

    public int type(int letter) {
        if (letter < 0 || letter > LETTER_AT_MOST) {
            return BAD;
        }
        if (written >= LETTERS_AT_MOST) {
            return FULL;
        }
        letters[written] = letter;
        written++;
        return written;
    }

    public int clear() {
        int had = written;
        written = 0;
        return had;
    }

    public int house() {
        int items = reader.readAll(written);
        if (items < 0) {
            return FAULT_BASE - reader.place();
        }
        told.takeFrom(reader.told);
        wishes.takeFrom(reader.wishes);
        history.loseAll();
        imagesKept = 0;
        seenSoFar = 0;
        written = 0;
        year.growStale();
        return items;
    }

    public int thing(int t, int what) {
        if (!isThing(t)) {
            return BAD;
        }
        switch (what) {
            case 0:
                return told.bears[t];
            case 1:
                return wishes.loanFrom[t];
            case 2:
                return wishes.loanTo[t];
            case 3:
                return wishes.barred[t];
            default:
                return BAD;
        }
    }

    public int light(int season) {
        return isSeason(season) ? told.lights[season] : BAD;
    }

    public int down(int season, int box) {
        return isSeason(season) && isCase(box) ? wishes.down[told.slotOf(season, box)] : BAD;
    }

    // ---- what is done

    public int sets(int season, int box, int t) {
        if (!isSeason(season) || !isCase(box) || t != NO_THING && !isThing(t)) {
            return BAD;
        }
        int slot = told.slotOf(season, box);
        int was = wishes.down[slot];
        int becomes = t == NO_THING ? NONE : t;
        if (was == becomes) {
            return STATE;
        }
        rememberWishes();
        wishes.down[slot] = becomes;
        return was;
    }

    public int lends(int t, int from, int to) {
        boolean ends = from == NO_SEASON && to == 0;
        boolean spans = isSeason(from) && isSeason(to) && from <= to;
        if (!isThing(t) || !ends && !spans) {
            return BAD;
        }
        int first = ends ? NONE : from;
        int last = ends ? NONE : to;
        if (wishes.loanFrom[t] == first && wishes.loanTo[t] == last) {
            return STATE;
        }
        int was = wishes.loanAsNumber(t);
        rememberWishes();
        wishes.loanFrom[t] = first;
        wishes.loanTo[t] = last;
        return was;
    }

    public int pairs(int t, int other) {
        if (!isThing(t) || !isThing(other) || t == other) {
            return BAD;
        }
        rememberWishes();
        wishes.turnPair(t, other);
        return wishes.isBarred(t, other) ? 1 : 0;
    }

    public int rules(int rule) {
        if (rule < 0 || rule >= RULES) {
            return BAD;
        }
        rememberWishes();
        wishes.rulesOn ^= 1 << rule;
        return wishes.isOn(rule) ? 1 : 0;
    }

    public int undo() {
        if (history.known() == 0) {
            return STATE;
        }
        history.restore(wishes);
        year.growStale();
        return history.known();
    }

    // ---- the plan

    public int plan(int season, int box) {
        if (!isSeason(season) || !isCase(box)) {
            return BAD;
        }
        return year.hasPlan() ? year.thingIn(told.slotOf(season, box)) : NONE;
    }

    public int cost(int what) {
        if (what < 0 || what > 1) {
            return BAD;
        }
        if (!year.hasPlan()) {
            return NONE;
        }
        return what == 0 ? year.changesNow() : year.mostLight();
    }

    public int spent(int t, int what) {
        if (!isThing(t) || what < 0 || what > 2 || !year.hasPlan()) {
            return NO;
        }
        int seasons = year.seasonsOf(t);
        if (what == 2) {
            return seasons;
        }
        int had = told.lightOver(seasons);
        return what == 0 ? had : told.bears[t] - had;
    }

    public int shown(int season) {
        if (!isSeason(season)) {
            return BAD;
        }
        return year.hasPlan() ? year.thingsIn(season) : NONE;
    }

    public int often(int k) {
        if (k < 0) {
            return BAD;
        }
        return year.hasPlan() ? year.thingOfRank(k) : NONE;
    }

    public int needed() {
        return year.leastMore();
    }

    public int dearth(int t) {
        if (!isThing(t)) {
            return BAD;
        }
        int without = year.changesWithout(t);
        return without == NONE ? NONE : without - year.changesNow();
    }

    // ---- which thing

    public int sees(int n) {
        if (n != NO_PLAN_SEEN && (n < 0 || n > CHANGES_AT_MOST)) {
            return BAD;
        }
        if (seenSoFar >= SEEN_AT_MOST) {
            return FULL;
        }
        seen[seenSoFar] = n;
        seenSoFar++;
        return seenSoFar;
    }

    public int forget() {
        int was = seenSoFar;
        seenSoFar = 0;
        return was;
    }

    public int unseen() {
        int bits = 0;
        for (int t = 0; t < told.things; t++) {
            if (isAllThatWasSeen(year.changesWithout(t))) {
                bits |= 1 << t;
            }
        }
        return bits;
    }

    // ---- images

    public int keep(int image) {
        if (image < 0 || image >= IMAGES) {
            return BAD;
        }
        images[image].takeFrom(wishes);
        imagesKept |= 1 << image;
        return told.things;
    }

    public int back(int image) {
        if (image < 0 || image >= IMAGES) {
            return BAD;
        }
        if ((imagesKept >> image & 1) == 0) {
            return STATE;
        }
        wishes.takeFrom(images[image]);
        history.loseAll();
        year.growStale();
        return told.things;
    }

    public int count(int what) {
        switch (what) {
            case 0:
                return told.things;
            case 1:
                return told.seasons;
            case 2:
                return told.cases;
            case 3:
                return wishes.rulesOn;
            case 4:
                return wishes.barredPairs();
            case 5:
                return seenSoFar;
            case 6:
                return written;
            case 7:
                return history.known();
            default:
                return BAD;
        }
    }

    private boolean isThing(int t) {
        return t >= 0 && t < told.things;
    }

    private boolean isSeason(int season) {
        return season >= 0 && season < told.seasons;
    }

    private boolean isCase(int box) {
        return box >= 0 && box < told.cases;
    }

    private void rememberWishes() {
        history.remember(wishes);
        year.growStale();
    }

    private boolean isAllThatWasSeen(int changes) {
        int wouldBeSeen = changes == NONE ? NO_PLAN_SEEN : changes;
        for (int i = 0; i < seenSoFar; i++) {
            if (seen[i] != wouldBeSeen) {
                return false;
            }
        }
        return true;
    }

    /** What only a text can change. */
    private static final class Told {
        int things;
        int seasons;
        int cases;
        final int[] bears = new int[THINGS_AT_MOST];
        final int[] lights = new int[SEASONS_AT_MOST];

        Told() {
            beAsAtFirst();
        }

        private void beAsAtFirst() {
            things = 0;
            seasons = SEASONS_AT_MOST;
            cases = CASES_AT_MOST;
            Arrays.fill(bears, 0);
            Arrays.fill(lights, LIGHT_AT_FIRST);
        }

        void takeFrom(Told other) {
            things = other.things;
            seasons = other.seasons;
            cases = other.cases;
            System.arraycopy(other.bears, 0, bears, 0, THINGS_AT_MOST);
            System.arraycopy(other.lights, 0, lights, 0, SEASONS_AT_MOST);
        }

        /** A season's cases lie side by side, so that slots run in the order in which plans are compared. */
        int slotOf(int season, int box) {
            return season * cases + box;
        }

        int rankByLight(int season) {
            int brighter = 0;
            for (int other = 0; other < seasons; other++) {
                if (lights[other] > lights[season] || lights[other] == lights[season] && other < season) {
                    brighter++;
                }
            }
            return brighter;
        }

        int lightOver(int seasonBits) {
            int sum = 0;
            for (int season = 0; season < seasons; season++) {
                if ((seasonBits >> season & 1) == 1) {
                    sum += lights[season];
                }
            }
            return sum;
        }
    }

    /** What calls can change, undo and keep in images. */
    private static final class Wishes {
        final int[] down = new int[SLOTS_AT_MOST];
        final int[] loanFrom = new int[THINGS_AT_MOST];
        final int[] loanTo = new int[THINGS_AT_MOST];
        final int[] barred = new int[THINGS_AT_MOST];
        int rulesOn;

        Wishes() {
            beAsAtFirst();
        }

        private void beAsAtFirst() {
            Arrays.fill(down, NONE);
            Arrays.fill(loanFrom, NONE);
            Arrays.fill(loanTo, NONE);
            Arrays.fill(barred, 0);
            rulesOn = ALL_RULES;
        }

        void takeFrom(Wishes other) {
            System.arraycopy(other.down, 0, down, 0, SLOTS_AT_MOST);
            System.arraycopy(other.loanFrom, 0, loanFrom, 0, THINGS_AT_MOST);
            System.arraycopy(other.loanTo, 0, loanTo, 0, THINGS_AT_MOST);
            System.arraycopy(other.barred, 0, barred, 0, THINGS_AT_MOST);
            rulesOn = other.rulesOn;
        }

        int loanAsNumber(int t) {
            return loanFrom[t] == NONE ? NONE : 10 * loanFrom[t] + loanTo[t];
        }

        /** The things (bits) that the rule of loans keeps out of a season. */
        int awayNow(int season) {
            int bits = 0;
            for (int t = 0; t < THINGS_AT_MOST && isOn(RULE_LOAN); t++) {
                // NONE lies below every season, so a thing without a loan is never away.
                if (loanFrom[t] <= season && season <= loanTo[t]) {
                    bits |= 1 << t;
                }
            }
            return bits;
        }

        /** The things (bits) that the rule of what is set down leaves to a slot. */
        int wantedNow(int slot) {
            return isOn(RULE_DOWN) && down[slot] != NONE ? 1 << down[slot] : ALL_THINGS;
        }

        /** The things (bits) that the rule of pairs keeps from a thing's side. */
        int barredNow(int t) {
            return isOn(RULE_BARRED) ? barred[t] : 0;
        }

        boolean isBarred(int t, int other) {
            return (barred[t] >> other & 1) == 1;
        }

        void turnPair(int t, int other) {
            barred[t] ^= 1 << other;
            barred[other] ^= 1 << t;
        }

        int barredPairs() {
            int ends = 0;
            for (int t = 0; t < THINGS_AT_MOST; t++) {
                ends += Integer.bitCount(barred[t]);
            }
            return ends / 2;
        }

        boolean isOn(int rule) {
            return (rulesOn >> rule & 1) == 1;
        }
    }

    /** The latest wishes, each as they stood ahead of a change; the oldest make room. */
    private static final class History {
        private final Wishes[] past = new Wishes[KNOWN_AT_MOST];
        private int next = 0;
        private int held = 0;

        History() {
            for (int i = 0; i < KNOWN_AT_MOST; i++) {
                past[i] = new Wishes();
            }
        }

        int known() {
            return held;
        }

        void loseAll() {
            held = 0;
        }

        void remember(Wishes wishes) {
            past[next].takeFrom(wishes);
            next = (next + 1) % KNOWN_AT_MOST;
            held = Math.min(held + 1, KNOWN_AT_MOST);
        }

        void restore(Wishes wishes) {
            if (held > 0) {
                next = (next + KNOWN_AT_MOST - 1) % KNOWN_AT_MOST;
                held--;
                wishes.takeFrom(past[next]);
            }
        }
    }

    /** Reads a text into a house of its own, so that a fault leaves the museum as it was. */
    private static final class Reader {
        private static final int END = -1, NUMBER = -2, ALIEN = -3;

        final Told told = new Told();
        final Wishes wishes = new Wishes();
        private final int[] text;
        private int length;
        private int at;
        private int start;
        private int kind;
        private int value;
        private boolean casesAreTold;
        private boolean lightsAreTold;

        Reader(int[] text) {
            this.text = text;
        }

        /** Where the token that was read last begins: where a text is refused, its fault. */
        int place() {
            return start;
        }

        /** How many items; below 0 if the text has a fault. */
        int readAll(int lettersWritten) {
            length = Math.min(lettersWritten, text.length);
            at = 0;
            casesAreTold = false;
            lightsAreTold = false;
            told.beAsAtFirst();
            wishes.beAsAtFirst();
            for (int items = 0; items <= length; items++) {
                advance();
                if (kind == END) {
                    return items;
                }
                if (!readItem()) {
                    return BAD;
                }
            }
            return BAD;
        }

        private boolean readItem() {
            switch (kind) {
                case 'c':
                    return readCases();
                case 'l':
                    return readLights();
                case 't':
                    return readThing();
                case 'x':
                    return readBarred();
                case 'a':
                    return readLoan();
                default:
                    return false;
            }
        }

        private boolean readCases() {
            if (casesAreTold || told.things > 0 || !nextIsNumber(1, CASES_AT_MOST)) {
                return false;
            }
            casesAreTold = true;
            told.cases = value;
            return nextIsEnd();
        }

        private boolean readLights() {
            if (lightsAreTold || told.things > 0) {
                return false;
            }
            lightsAreTold = true;
            for (int season = 0; season < SEASONS_AT_MOST; season++) {
                advance();
                if (kind == ';' && season > 0) {
                    return true;
                }
                if (!isNumber(0, LIGHT_AT_MOST)) {
                    return false;
                }
                told.lights[season] = value;
                told.seasons = season + 1;
            }
            return nextIsEnd();
        }

        private boolean readThing() {
            if (told.things >= THINGS_AT_MOST || !nextIsNumber(0, BEARS_AT_MOST)) {
                return false;
            }
            told.bears[told.things] = value;
            told.things++;
            return nextIsEnd();
        }

        private boolean readBarred() {
            if (!nextIsNumber(0, told.things - 1)) {
                return false;
            }
            int t = value;
            if (!nextIsNumber(0, told.things - 1)) {
                return false;
            }
            int other = value;
            if (other == t || wishes.isBarred(t, other)) {
                return false;
            }
            wishes.turnPair(t, other);
            return nextIsEnd();
        }

        private boolean readLoan() {
            if (!nextIsNumber(0, told.things - 1)) {
                return false;
            }
            int t = value;
            if (!nextIsNumber(0, told.seasons - 1)) {
                return false;
            }
            int from = value;
            if (!nextIsNumber(from, told.seasons - 1)) {
                return false;
            }
            wishes.loanFrom[t] = from;
            wishes.loanTo[t] = value;
            return nextIsEnd();
        }

        private boolean nextIsEnd() {
            advance();
            return kind == ';';
        }

        private boolean nextIsNumber(int low, int high) {
            advance();
            return isNumber(low, high);
        }

        private boolean isNumber(int low, int high) {
            return kind == NUMBER && value >= low && value <= high;
        }

        private void advance() {
            while (at < length && text[at] == ' ') {
                at++;
            }
            start = at;
            if (at >= length) {
                kind = END;
            } else if (isFigure(text[at])) {
                advanceOverNumber();
            } else {
                kind = isSign(text[at]) ? text[at] : ALIEN;
                at++;
            }
        }

        private void advanceOverNumber() {
            boolean fits = true;
            value = 0;
            while (at < length && isFigure(text[at])) {
                fits = fits && (at == start || value > 0);
                value = Math.min(10 * value + text[at] - '0', NUMBER_AT_MOST + 1);
                at++;
            }
            kind = fits && value <= NUMBER_AT_MOST ? NUMBER : ALIEN;
        }

        private static boolean isFigure(int letter) {
            return letter >= '0' && letter <= '9';
        }

        private static boolean isSign(int letter) {
            return letter == 'c' || letter == 'l' || letter == 't' || letter == 'x' || letter == 'a' || letter == ';';
        }
    }

    /** Looks for plans slot by slot, lower things first, so that of like plans the first is met first. */
    private static final class Search {
        private final Told told;
        private final Wishes wishes;
        private final int[] open = new int[SLOTS_AT_MOST];
        private final int[] lightIn = new int[SLOTS_AT_MOST];
        private final int[] cap = new int[THINGS_AT_MOST];
        private final int[] foes = new int[THINGS_AT_MOST];
        private final int[] had = new int[THINGS_AT_MOST];
        private final int[] tried = new int[SLOTS_AT_MOST];
        private final int[] best = new int[SLOTS_AT_MOST];
        /** By slot: how few runs of one thing each can fill its case from there on; behind the last season 0. */
        private final int[] runsFrom = new int[SLOTS_AT_MOST + CASES_AT_MOST];
        /** By slot: how few changes its case must yet see behind it, with the thing tried there. */
        private final int[] changesAfter = new int[SLOTS_AT_MOST];
        private int slots;
        private boolean anyWillDo;
        private boolean orderIsFree;
        private boolean found;
        private int bestMost;
        /** Only a plan whose MOST is below this is wanted yet. */
        private int limit;

        Search(Told told, Wishes wishes) {
            this.told = told;
            this.wishes = wishes;
        }

        int bestMost() {
            return bestMost;
        }

        void copyBestTo(int[] into) {
            System.arraycopy(best, 0, into, 0, Math.min(best.length, into.length));
        }

        /**
         * Whether there is any plan, with a thing broken (NO_THING: none) and each bearing so much more.
         * The brightest seasons come first here: where light is short, that shows soonest.
         */
        boolean canBeFilled(int broken, int more) {
            prepare(broken, more, true);
            anyWillDo = true;
            fill(0, CHANGES_AT_MOST, 0);
            return found;
        }

        /** The fewest changes, at least so many, with a thing broken; asked only where a plan is known to be. */
        int fewestChanges(int broken, int atLeast, boolean any) {
            prepare(broken, 0, false);
            anyWillDo = any;
            for (int changes = atLeast; changes <= CHANGES_AT_MOST; changes++) {
                fill(0, changes, 0);
                if (found) {
                    return changes;
                }
            }
            return NONE;
        }

        private void prepare(int broken, int more, boolean brightestFirst) {
            found = false;
            orderIsFree = brightestFirst;
            limit = ENDLESS;
            slots = told.seasons * told.cases;
            for (int t = 0; t < told.things; t++) {
                had[t] = 0;
                cap[t] = wishes.isOn(RULE_LIGHT) ? told.bears[t] + more : ENDLESS;
                foes[t] = 1 << t | wishes.barredNow(t);
            }
            for (int season = 0; season < told.seasons; season++) {
                int turn = brightestFirst ? told.rankByLight(season) : season;
                openSeason(season, told.slotOf(turn, 0), 1 << broken);
            }
            countRuns();
        }

        private void openSeason(int season, int firstSlot, int brokenBit) {
            int bits = thingsThatBear(told.lights[season]) & ~wishes.awayNow(season) & ~brokenBit;
            for (int box = 0; box < told.cases; box++) {
                lightIn[firstSlot + box] = told.lights[season];
                open[firstSlot + box] = bits & wishes.wantedNow(told.slotOf(season, box));
            }
            if (told.cases == 2) {
                open[firstSlot] = withPartner(open[firstSlot], open[firstSlot + 1]);
                open[firstSlot + 1] = withPartner(open[firstSlot + 1], open[firstSlot]);
            }
        }

        /** Those things of some that can stand beside one of the others. */
        private int withPartner(int some, int others) {
            int bits = 0;
            for (int t = 0; t < told.things; t++) {
                if ((some >> t & 1) == 1 && (others & ~foes[t]) != 0) {
                    bits |= 1 << t;
                }
            }
            return bits;
        }

        private int thingsThatBear(int light) {
            int bits = 0;
            for (int t = 0; t < told.things; t++) {
                if (light <= cap[t]) {
                    bits |= 1 << t;
                }
            }
            return bits;
        }

        private void countRuns() {
            Arrays.fill(runsFrom, 0);
            for (int slot = slots - 1; slot >= 0; slot--) {
                int fewest = ENDLESS;
                for (int t = 0; t < told.things; t++) {
                    if ((open[slot] >> t & 1) == 1) {
                        fewest = Math.min(fewest, runsFrom[leavesAt(t, slot, lightIn[slot])]);
                    }
                }
                runsFrom[slot] = 1 + fewest;
            }
        }

        /** The first slot of the same case in which a thing can't stay on, with the light that it has had. */
        private int leavesAt(int t, int slot, int light) {
            int next = slot + told.cases;
            int sum = light;
            for (int seasons = 0; seasons < SEASONS_AT_MOST && next < slots; seasons++) {
                sum += lightIn[next];
                if ((open[next] >> t & 1) == 0 || sum > cap[t]) {
                    return next;
                }
                next += told.cases;
            }
            return next;
        }

        private void fill(int slot, int changesLeft, int mostSoFar) {
            if (slot == slots) {
                take(mostSoFar);
            }
            if (slot < 0 || slot >= slots) {
                return;
            }
            int bits = told.cases == 2 && (slot & 1) == 1 ? besideFirst(slot) : open[slot];
            for (int t = 0; t < told.things && mostSoFar < limit; t++) {
                if ((bits >> t & 1) == 1) {
                    place(t, slot, changesLeft, mostSoFar);
                }
            }
        }

        /** The things (bits) for a second case, the first one being filled. */
        private int besideFirst(int slot) {
            int first = tried[slot - 1];
            int bits = open[slot] & ~foes[first];
            // Where both cases may have the same things, the pair has been tried the other way round.
            return orderIsFree && open[slot] == open[slot - 1] ? bits & -1 << first : bits;
        }

        private void place(int t, int slot, int changesLeft, int mostSoFar) {
            int ahead = slot - told.cases;
            int left = ahead >= 0 && tried[ahead] != t ? changesLeft - 1 : changesLeft;
            int before = had[t];
            int light = before + lightIn[slot];
            if (left < 0 || light > cap[t] || light >= limit) {
                return;
            }
            changesAfter[slot] = runsFrom[leavesAt(t, slot, light)];
            if (changesAfter[slot] + changesBeside(slot) <= left) {
                tried[slot] = t;
                had[t] = light;
                fill(slot + 1, left, Math.max(mostSoFar, light));
                had[t] = before;
            }
        }

        /** How few changes the other case must yet see, as the slot ahead has left it. */
        private int changesBeside(int slot) {
            if (told.cases == 1) {
                return 0;
            }
            return slot == 0 ? runsFrom[1] - 1 : changesAfter[slot - 1];
        }

        private void take(int most) {
            System.arraycopy(tried, 0, best, 0, slots);
            found = true;
            bestMost = most;
            limit = anyWillDo ? 0 : most;
        }
    }

    /** THE PLAN and what follows from it, found when first asked for and held until something changes. */
    private static final class Year {
        private static final int UNKNOWN = -5;

        private final Told told;
        private final Wishes wishes;
        private final Search search;
        private final int[] filled = new int[SLOTS_AT_MOST];
        private final int[] without = new int[THINGS_AT_MOST];
        private int changes = UNKNOWN;
        private int most;

        Year(Told told, Wishes wishes) {
            this.told = told;
            this.wishes = wishes;
            search = new Search(told, wishes);
        }

        void growStale() {
            changes = UNKNOWN;
        }

        boolean hasPlan() {
            return changesNow() != NONE;
        }

        int changesNow() {
            if (changes == UNKNOWN) {
                changes = search.canBeFilled(NO_THING, 0) ? search.fewestChanges(NO_THING, 0, false) : NONE;
                most = search.bestMost();
                search.copyBestTo(filled);
                Arrays.fill(without, UNKNOWN);
            }
            return changes;
        }

        int changesWithout(int t) {
            int now = changesNow();
            if (now == NONE || seasonsOf(t) == 0) {
                return now;
            }
            if (without[t] == UNKNOWN) {
                without[t] = search.canBeFilled(t, 0) ? search.fewestChanges(t, now, true) : NONE;
            }
            return without[t];
        }

        int mostLight() {
            return most;
        }

        int thingIn(int slot) {
            return filled[slot];
        }

        int thingsIn(int season) {
            int bits = 0;
            for (int box = 0; box < told.cases; box++) {
                bits |= 1 << filled[told.slotOf(season, box)];
            }
            return bits;
        }

        int seasonsOf(int t) {
            int bits = 0;
            for (int season = 0; season < told.seasons; season++) {
                bits |= (thingsIn(season) >> t & 1) << season;
            }
            return bits;
        }

        int thingOfRank(int rank) {
            for (int t = 0; t < told.things; t++) {
                if (rankOf(t) == rank) {
                    return t;
                }
            }
            return NONE;
        }

        private int rankOf(int t) {
            int times = Integer.bitCount(seasonsOf(t));
            int aheadOfIt = 0;
            for (int other = 0; other < told.things; other++) {
                int otherTimes = Integer.bitCount(seasonsOf(other));
                if (otherTimes > times || otherTimes == times && other < t) {
                    aheadOfIt++;
                }
            }
            return aheadOfIt;
        }

        int leastMore() {
            if (changesNow() != NONE) {
                return 0;
            }
            if (!wishes.isOn(RULE_LIGHT) || !search.canBeFilled(NO_THING, MORE_AT_MOST)) {
                return NONE;
            }
            int tooLittle = 0;
            int enough = MORE_AT_MOST;
            for (int step = 0; step < MORE_AT_MOST && tooLittle + 1 < enough; step++) {
                int middle = (tooLittle + enough) / 2;
                if (search.canBeFilled(NO_THING, middle)) {
                    enough = middle;
                } else {
                    tooLittle = middle;
                }
            }
            return enough;
        }
    }
}
