import java.util.Arrays;

/** Towns in cells where the lame ride the blind: the numbered promises stand in ../shared/DOC.md. */
public final class OneEyeTwoLegs {
    public static final int NONE = -1;
    public static final int SPENT = -2;

    private static final int WALL = 1;
    private static final int TAPS = 4;
    private static final int MOST_CELLS = 25;
    private static final int MOST_PAIRS = 6;
    private static final int MOST_TEXTS = 4;
    private static final int MOST_BYTES = 300;
    private static final int MOST_TAPS = 16;
    private static final int MOST_STEPS = 30;
    private static final int MOST_SEEN = 20;
    private static final int MOST_OF_A_SIDE = 6;
    private static final int MOST_TAPS_OF_ODDS = 12;
    private static final int MOST_TEXTS_AT_ONCE = 3;
    private static final int ABOUT_CELLS = 10;

    // A step's answer is the pose, with one of these on top; poses stay below 100.
    private static final int BUMPED = 200;
    private static final int REFUSED = 400;

    // The names of the texts; those below RIDER are of does and fears, the others of likes.
    private static final int TAP = 0;
    private static final int HEADING = 1;
    private static final int X = 2;
    private static final int Y = 3;
    private static final int HERE = 4;
    private static final int AHEAD = 5;
    private static final int RIDER = 6;
    private static final int CARRIER = 7;
    private static final int SIGHT = 8;
    private static final int PACE = 9;
    private static final int ASKS = 10;
    private static final int NAMES = 11;

    // The tokens: a word that is no name counts on behind the names. What is worked in a text
    // goes by the token that asks for it, so these are the orders of a Script, too.
    private static final int DOES = 11;
    private static final int FEARS = 12;
    private static final int LIKES = 13;
    private static final int IF = 14;
    private static final int END = 15;
    private static final int OR = 16;
    private static final int AND = 17;
    private static final int NOT = 18;
    private static final int WORDS = 19;
    private static final int NUMBER = 19;
    private static final int NAME = 20;
    private static final int LESS = 21;
    private static final int LESS_OR_LIKE = 22;
    private static final int MORE = 23;
    private static final int MORE_OR_LIKE = 24;
    private static final int LIKE = 25;
    private static final int UNLIKE = 26;
    private static final int PLUS = 27;
    private static final int MINUS = 28;
    private static final int TIMES = 29;
    private static final int OVER = 30;
    private static final int OPEN = 31;
    private static final int CLOSE = 32;
    private static final int STOP = 33;
    private static final int THEN = 34;
    private static final int ELSE = 35;
    private static final int NO_TOKEN = 36;
    private static final int END_OF_TEXT = 37;
    private static final int NEGATE = 38;

    private final State now;
    private final State kept;
    private final Ints tape = new Ints(MOST_BYTES);
    private final Reader reader = new Reader();
    private final Mind mind = new Mind();
    private final Legs legs;
    private final Wedding wedding;
    private final Crowd throng;
    private final long[] weights = new long[TAPS * MOST_CELLS];
    private final long[] spread = new long[TAPS * MOST_CELLS];
    private int latestFault = NONE;
    private int latestPlace = NONE;
    // These need long rows: they are made at the first call that asks for them.
    private Search search;
    private Chase pursuit;

    public OneEyeTwoLegs(int w, int h) {
        now = new State(w, h);
        kept = new State(w, h);
        legs = new Legs(now, mind);
        wedding = new Wedding(now, mind);
        throng = new Crowd(now, legs);
    }

    public boolean cell(int p, int kind) {
        if (!now.isCell(p) || kind < 0 || kind > 3) {
            return false;
        }
        if (kind == WALL && now.hasPairIn(p)) {
            return false;
        }
        now.kinds.put(p, kind);
        now.forgetSteps();
        legs.forget();
        return true;
    }

    public int pair(int pose, int habit) {
        if (!now.isPose(pose) || !now.isText(habit) || now.poses.size() >= MOST_PAIRS) {
            return NONE;
        }
        now.poses.add(pose);
        now.habits.add(habit);
        return now.poses.size() - 1;
    }

    public int feed(int a, int b, int c, int d, int e) {
        if (tape.size() + 20 > MOST_BYTES) {
            return NONE;
        }
        addBytes(a);
        addBytes(b);
        addBytes(c);
        addBytes(d);
        addBytes(e);
        return tape.size();
    }

    private void addBytes(int four) {
        for (int shift = 24; shift >= 0; shift -= 8) {
            tape.add((four >>> shift) & 255);
        }
    }

    public int end(int n) {
        if (n < 0 || n > tape.size()) {
            return NONE;
        }
        tape.cutTo(n);
        return n;
    }

    public int text() {
        if (now.texts >= MOST_TEXTS) {
            return NONE;
        }
        Script script = reader.read(tape);
        tape.cutTo(0);
        latestFault = reader.found();
        latestPlace = reader.foundAt();
        if (script == null) {
            return NONE;
        }
        return now.addText(script);
    }

    public int fault(int what) {
        if (what == 0) {
            return latestFault;
        }
        return what == 1 ? latestPlace : NONE;
    }

    public int goes(int habit, int pose, int tap) {
        if (!now.isText(habit) || !now.isPose(pose) || !isTap(tap)) {
            return NONE;
        }
        return legs.step(habit, pose, tap);
    }

    public int tap(int pair, int tap) {
        if (!now.isPair(pair) || !isTap(tap)) {
            return NONE;
        }
        now.keepStep(pair);
        int answer = legs.step(now.habits.at(pair), now.poses.at(pair), tap);
        now.poses.put(pair, poseOf(answer));
        return answer;
    }

    public int row(int tap) {
        if (tap == NONE) {
            now.taps.cutTo(0);
            return 0;
        }
        if (!isTap(tap) || now.taps.size() >= MOST_TAPS) {
            return NONE;
        }
        now.taps.add(tap);
        return now.taps.size();
    }

    public int walk(int pair) {
        if (!now.isPair(pair)) {
            return NONE;
        }
        now.keepStep(pair);
        int pose = now.poses.at(pair);
        int bumps = 0;
        for (int k = 0; k < now.taps.size(); k++) {
            int answer = legs.step(now.habits.at(pair), pose, now.taps.at(k));
            bumps += hasBumped(answer) ? 1 : 0;
            pose = poseOf(answer);
        }
        now.poses.put(pair, pose);
        return bumps;
    }

    public int undo() {
        int latest = now.stepPairs.size() - 1;
        if (latest < 0) {
            return NONE;
        }
        int pair = now.stepPairs.at(latest);
        now.poses.put(pair, now.stepPoses.at(latest));
        now.stepPairs.cutTo(latest);
        now.stepPoses.cutTo(latest);
        return pair;
    }

    public int of(int pair, int what) {
        if (!now.isPair(pair)) {
            return NONE;
        }
        if (what == 0) {
            return now.poses.at(pair);
        }
        return what == 1 ? now.habits.at(pair) : NONE;
    }

    public int fewest(int texts, int pose, int cell, int i) {
        if (texts <= 0 || texts >= 1 << now.texts || Integer.bitCount(texts) > MOST_TEXTS_AT_ONCE) {
            return NONE;
        }
        if (!now.isPose(pose) || !now.isCell(cell) || i < NONE) {
            return NONE;
        }
        Search byAll = searcher();
        byAll.goTo(cell);
        for (int text = 0; text < now.texts; text++) {
            if ((texts >> text & 1) == 1) {
                byAll.add(text);
            }
        }
        return tapOrCount(byAll, byAll.seek(pose), i);
    }

    public int tells(int one, int other, int pose, int i) {
        if (!now.isText(one) || !now.isText(other) || !now.isPose(pose) || i < NONE) {
            return NONE;
        }
        Search byBoth = searcher();
        byBoth.goApart();
        byBoth.add(one);
        byBoth.add(other);
        return tapOrCount(byBoth, byBoth.seek(pose), i);
    }

    private Search searcher() {
        if (search == null) {
            search = new Search(legs);
        }
        return search;
    }

    private static int tapOrCount(Search done, int count, int i) {
        if (count < 0 || i == NONE) {
            return count;
        }
        return i < count ? done.tapAt(count, i) : NONE;
    }

    public long odds(int habit, int pose, int cell, int m, int what) {
        if (!now.isText(habit) || !now.isPose(pose) || !now.isCell(cell)) {
            return NONE;
        }
        if (m < 0 || m > 10 || what < 0 || what > 1 || now.taps.size() > MOST_TAPS_OF_ODDS) {
            return NONE;
        }
        Arrays.fill(weights, 0L);
        weights[pose] = 1L;
        long lower = 1L;
        for (int k = 0; k < now.taps.size(); k++) {
            spreadBy(habit, now.taps.at(k), m);
            lower *= 10L;
        }
        long upper = 0L;
        for (int heading = 0; heading < 4; heading++) {
            upper += weights[4 * cell + heading];
        }
        long common = commonDivisor(lower, upper);
        return (what == 0 ? upper : lower) / common;
    }

    private void spreadBy(int habit, int tap, int m) {
        Arrays.fill(spread, 0L);
        for (int pose = 0; pose < now.posesInAll(); pose++) {
            if (weights[pose] != 0L) {
                spread[poseOf(legs.step(habit, pose, tap))] += weights[pose] * (10 - m);
                spread[poseOf(legs.step(habit, pose, (tap + 1) % TAPS))] += weights[pose] * m;
            }
        }
        System.arraycopy(spread, 0, weights, 0, weights.length);
    }

    private static long commonDivisor(long one, long other) {
        long greater = Math.max(1L, one);
        long less = other;
        // Euclid's steps on numbers up to 10 to the 12th stay below 60.
        for (int k = 0; k < 100 && less != 0L; k++) {
            long rest = greater % less;
            greater = less;
            less = rest;
        }
        return greater;
    }

    public int seen(int pose, int tap, int then) {
        if (!now.isPose(pose) || !isTap(tap) || !now.isPose(then) || now.seenPoses.size() >= MOST_SEEN) {
            return NONE;
        }
        now.seenPoses.add(pose);
        now.seenTaps.add(tap);
        now.seenThens.add(then);
        return now.seenPoses.size();
    }

    public int holds() {
        int bits = 0;
        for (int text = 0; text < now.texts; text++) {
            bits |= isAllSeenBy(text) ? 1 << text : 0;
        }
        return bits;
    }

    private boolean isAllSeenBy(int text) {
        for (int k = 0; k < now.seenPoses.size(); k++) {
            int pose = now.seenPoses.at(k);
            int then = now.seenThens.at(k);
            if (!now.isPose(pose) || !now.isPose(then)) {
                return false;
            }
            if (poseOf(legs.step(text, pose, now.seenTaps.at(k))) != then) {
                return false;
            }
        }
        return true;
    }

    public int dark(int habit, int bumps, int i) {
        if (!now.isText(habit) || bumps < 0 || bumps >= 1 << now.taps.size() || i < NONE) {
            return NONE;
        }
        int count = 0;
        for (int pose = 0; pose < now.posesInAll(); pose++) {
            if (now.isPose(pose) && bumpsFrom(habit, pose) == bumps) {
                if (count == i) {
                    return pose;
                }
                count++;
            }
        }
        return i == NONE ? count : NONE;
    }

    private int bumpsFrom(int habit, int start) {
        int pose = start;
        int bits = 0;
        for (int k = 0; k < now.taps.size(); k++) {
            int answer = legs.step(habit, pose, now.taps.at(k));
            bits |= hasBumped(answer) ? 1 << k : 0;
            pose = poseOf(answer);
        }
        return bits;
    }

    public int rider(int sight) {
        return addToSide(now.sights, sight);
    }

    public int carrier(int pace) {
        return addToSide(now.paces, pace);
    }

    private static int addToSide(Ints side, int what) {
        if (what < 0 || what > 9 || side.size() >= MOST_OF_A_SIDE) {
            return NONE;
        }
        side.add(what);
        return side.size();
    }

    public int wed(int text, int side, int rider) {
        Script script = now.scriptOf(text);
        if (script == null || side < 0 || side > 1 || rider < 0 || rider >= now.sights.size()) {
            return NONE;
        }
        return wedding.carrierOf(rider, side, script);
    }

    public int crowd(int home) {
        return now.isCell(home) ? throng.rounds(home) : NONE;
    }

    public int chase(int habit, int pose, int thiefs, int thief) {
        if (!isChase(habit, pose, thiefs, thief)) {
            return NONE;
        }
        return pursuer().turns(habit, pose, thiefs, thief);
    }

    public int hunt(int habit, int pose, int thiefs, int thief) {
        if (!isChase(habit, pose, thiefs, thief)) {
            return NONE;
        }
        int turns = pursuer().turns(habit, pose, thiefs, thief);
        return turns <= 0 ? NONE : pursuer().firstTap(habit, pose, thief, turns);
    }

    private boolean isChase(int habit, int pose, int thiefs, int thief) {
        return now.isText(habit) && now.isPose(pose) && now.isText(thiefs) && now.isPose(thief);
    }

    private Chase pursuer() {
        if (pursuit == null) {
            pursuit = new Chase(now, legs);
        }
        return pursuit;
    }

    public int image() {
        kept.copyFrom(now);
        return now.poses.size();
    }

    public int back() {
        now.copyFrom(kept);
        legs.forget();
        return now.poses.size();
    }

    public int about(int what) {
        switch (what) {
            case 0: return now.w;
            case 1: return now.h;
            case 2: return now.poses.size();
            case 3: return now.texts;
            case 4: return now.taps.size();
            case 5: return now.stepPairs.size();
            case 6: return now.seenPoses.size();
            case 7: return now.sights.size();
            case 8: return now.paces.size();
            case 9: return tape.size();
            default: return what >= ABOUT_CELLS && now.isCell(what - ABOUT_CELLS)
                ? now.kinds.at(what - ABOUT_CELLS) : -2;
        }
    }

    private static boolean isTap(int tap) {
        return tap >= 0 && tap < TAPS;
    }

    private static int poseOf(int answer) {
        return answer % BUMPED;
    }

    private static boolean hasBumped(int answer) {
        return answer >= BUMPED && answer < REFUSED;
    }

    /** A row of numbers with a bound; no index fails: what is outside of it reads as 0 and takes nothing. */
    private static final class Ints {
        private final int[] items;
        private int size;

        Ints(int room) {
            items = new int[Math.max(0, room)];
        }

        int size() {
            return size;
        }

        int at(int i) {
            return i >= 0 && i < size ? items[i] : 0;
        }

        void put(int i, int item) {
            if (i >= 0 && i < size) {
                items[i] = item;
            }
        }

        void add(int item) {
            if (size < items.length) {
                items[size] = item;
                size++;
            }
        }

        void cutTo(int length) {
            size = Math.max(0, Math.min(size, length));
        }

        void dropFirst() {
            if (size > 0) {
                System.arraycopy(items, 1, items, 0, size - 1);
                size--;
            }
        }

        void copyFrom(Ints other) {
            size = Math.min(other.size, items.length);
            System.arraycopy(other.items, 0, items, 0, size);
        }
    }

    /** All that an image keeps: everything but the tape and the latest fault. */
    private static final class State {
        final int w;
        final int h;
        final Ints kinds;
        final Ints poses = new Ints(MOST_PAIRS);
        final Ints habits = new Ints(MOST_PAIRS);
        final Ints taps = new Ints(MOST_TAPS);
        final Ints stepPairs = new Ints(MOST_STEPS);
        final Ints stepPoses = new Ints(MOST_STEPS);
        final Ints seenPoses = new Ints(MOST_SEEN);
        final Ints seenTaps = new Ints(MOST_SEEN);
        final Ints seenThens = new Ints(MOST_SEEN);
        final Ints sights = new Ints(MOST_OF_A_SIDE);
        final Ints paces = new Ints(MOST_OF_A_SIDE);
        private final Script[] scripts = new Script[MOST_TEXTS];
        int texts;

        State(int width, int height) {
            w = Math.max(2, Math.min(5, width));
            h = Math.max(2, Math.min(5, height));
            kinds = new Ints(w * h);
            for (int p = 0; p < w * h; p++) {
                kinds.add(0);
            }
        }

        void copyFrom(State other) {
            kinds.copyFrom(other.kinds);
            poses.copyFrom(other.poses);
            habits.copyFrom(other.habits);
            taps.copyFrom(other.taps);
            stepPairs.copyFrom(other.stepPairs);
            stepPoses.copyFrom(other.stepPoses);
            seenPoses.copyFrom(other.seenPoses);
            seenTaps.copyFrom(other.seenTaps);
            seenThens.copyFrom(other.seenThens);
            sights.copyFrom(other.sights);
            paces.copyFrom(other.paces);
            for (int k = 0; k < MOST_TEXTS; k++) {
                scripts[k] = other.scripts[k];
            }
            texts = other.texts;
        }

        int posesInAll() {
            return 4 * w * h;
        }

        boolean isCell(int p) {
            return p >= 0 && p < w * h;
        }

        boolean isPose(int pose) {
            return pose >= 0 && pose < posesInAll() && kinds.at(pose / 4) != WALL;
        }

        boolean isText(int text) {
            return text >= 0 && text < texts;
        }

        boolean isPair(int pair) {
            return pair >= 0 && pair < poses.size();
        }

        boolean hasPairIn(int p) {
            for (int pair = 0; pair < poses.size(); pair++) {
                if (poses.at(pair) / 4 == p) {
                    return true;
                }
            }
            return false;
        }

        Script scriptOf(int text) {
            return text >= 0 && text < texts && text < scripts.length ? scripts[text] : null;
        }

        int addText(Script script) {
            if (texts >= scripts.length) {
                return NONE;
            }
            scripts[texts] = script;
            texts++;
            return texts - 1;
        }

        void keepStep(int pair) {
            if (stepPairs.size() >= MOST_STEPS) {
                stepPairs.dropFirst();
                stepPoses.dropFirst();
            }
            stepPairs.add(pair);
            stepPoses.add(poses.at(pair));
        }

        void forgetSteps() {
            stepPairs.cutTo(0);
            stepPoses.cutTo(0);
        }
    }

    /** A text without fault as orders for a Mind, and where its clauses start in them (NONE without). */
    private static final class Script {
        final int[] orders;
        final int does;
        final int fears;
        final int likes;

        Script(int[] orders, int does, int fears, int likes) {
            this.orders = orders;
            this.does = does;
            this.fears = fears;
            this.likes = likes;
        }
    }

    /** The tokens of a tape, all found ahead of the reading; the last one is the end of the text. */
    private static final class Tokens {
        private static final int TOO_GREAT = 10000;

        private final Ints kinds = new Ints(MOST_BYTES + 1);
        private final Ints places = new Ints(MOST_BYTES + 1);
        private final Ints values = new Ints(MOST_BYTES + 1);

        int kindAt(int i) {
            return i < kinds.size() ? kinds.at(i) : END_OF_TEXT;
        }

        int placeAt(int i) {
            return places.at(i);
        }

        int valueAt(int i) {
            return values.at(i);
        }

        void scan(Ints bytes) {
            kinds.cutTo(0);
            places.cutTo(0);
            values.cutTo(0);
            int at = 0;
            for (int k = 0; k < MOST_BYTES && at < bytes.size(); k++) {
                at = scanOne(bytes, at);
            }
            note(END_OF_TEXT, bytes.size(), 0);
        }

        private int scanOne(Ints bytes, int from) {
            int sign = bytes.at(from);
            if (sign == 32 || sign == 10) {
                return from + 1;
            }
            if (isLetter(sign)) {
                return scanWord(bytes, from);
            }
            if (isDigit(sign)) {
                return scanNumber(bytes, from);
            }
            boolean isWide = (sign == '<' || sign == '>') && bytes.at(from + 1) == '=';
            int kind = kindOfSign(sign);
            // The wider sign's kind is the next one.
            note(isWide ? kind + 1 : kind, from, 0);
            return isWide ? from + 2 : from + 1;
        }

        private int scanWord(Ints bytes, int from) {
            int to = from;
            for (int k = 0; k < MOST_BYTES && isLetter(bytes.at(to)); k++) {
                to++;
            }
            int word = 0;
            for (int k = 0; k < WORDS && !isSpelled(bytes, from, to, spelling(word)); k++) {
                word++;
            }
            if (word < NAMES) {
                note(NAME, from, word);
            } else {
                note(word < WORDS ? word : NO_TOKEN, from, 0);
            }
            return to;
        }

        private int scanNumber(Ints bytes, int from) {
            int to = from;
            int value = 0;
            for (int k = 0; k < MOST_BYTES && isDigit(bytes.at(to)); k++) {
                value = Math.min(TOO_GREAT, 10 * value + bytes.at(to) - '0');
                to++;
            }
            note(NUMBER, from, value);
            return to;
        }

        private void note(int kind, int place, int value) {
            kinds.add(kind);
            places.add(place);
            values.add(value);
        }

        private static boolean isLetter(int sign) {
            return sign >= 'a' && sign <= 'z' || sign >= 'A' && sign <= 'Z';
        }

        private static boolean isDigit(int sign) {
            return sign >= '0' && sign <= '9';
        }

        private static boolean isSpelled(Ints bytes, int from, int to, String word) {
            if (to - from != word.length()) {
                return false;
            }
            for (int k = 0; k < word.length(); k++) {
                if (bytes.at(from + k) != word.charAt(k)) {
                    return false;
                }
            }
            return true;
        }

        private static int kindOfSign(int sign) {
            switch (sign) {
                case '<': return LESS;
                case '>': return MORE;
                case '=': return LIKE;
                case '#': return UNLIKE;
                case '+': return PLUS;
                case '-': return MINUS;
                case '*': return TIMES;
                case '/': return OVER;
                case '(': return OPEN;
                case ')': return CLOSE;
                case ';': return STOP;
                case '?': return THEN;
                case ':': return ELSE;
                default: return NO_TOKEN;
            }
        }

        private static String spelling(int word) {
            switch (word) {
                case TAP: return "tap";
                case HEADING: return "heading";
                case X: return "x";
                case Y: return "y";
                case HERE: return "here";
                case AHEAD: return "ahead";
                case RIDER: return "rider";
                case CARRIER: return "carrier";
                case SIGHT: return "sight";
                case PACE: return "pace";
                case ASKS: return "asks";
                case DOES: return "does";
                case FEARS: return "fears";
                case LIKES: return "likes";
                case IF: return "if";
                case END: return "end";
                case OR: return "or";
                case AND: return "and";
                case NOT: return "not";
                default: return "";
            }
        }
    }

    /**
     * Reads the grammar. The present token alone tells the way, so a token that no way takes is the
     * first fault; behind a fault the token is none, and all that is open comes back by itself.
     */
    private static final class Reader {
        private static final int CANNOT_STAND = 1;
        private static final int NUMBER_TOO_GREAT = 2;
        private static final int TOO_DEEP = 3;
        private static final int CLAUSE_TWICE = 4;
        private static final int NAME_OF_ANOTHER = 5;
        private static final int GREATEST_NUMBER = 9999;
        private static final int MOST_OPEN = 8;
        // A byte of a text makes two orders at most.
        private static final int MOST_ORDERS = 2 * MOST_BYTES + 2;

        private final Tokens tokens = new Tokens();
        private final int[] orders = new int[MOST_ORDERS];
        private final int[] starts = new int[3];
        private int length;
        private int at;
        private int kind;
        private int clause;
        private int open;
        private int fault;
        private int place;

        int found() {
            return fault;
        }

        int foundAt() {
            return place;
        }

        /** Null if there is a fault. */
        Script read(Ints tape) {
            tokens.scan(tape);
            Arrays.fill(starts, NONE);
            length = 0;
            at = 0;
            kind = tokens.kindAt(0);
            open = 0;
            fault = 0;
            place = NONE;
            // A 4th clause is a fault always.
            for (int k = 0; k < 4 && fault == 0 && kind != END_OF_TEXT; k++) {
                readClause();
            }
            if (fault != 0) {
                return null;
            }
            return new Script(Arrays.copyOf(orders, length), starts[0], starts[1], starts[2]);
        }

        private void readClause() {
            if (kind != DOES && kind != FEARS && kind != LIKES) {
                fail(CANNOT_STAND);
                return;
            }
            clause = kind;
            if (starts[clause - DOES] != NONE) {
                fail(CLAUSE_TWICE);
                return;
            }
            starts[clause - DOES] = length;
            next();
            if (clause == FEARS) {
                readEither();
            } else {
                readSum();
            }
            take(STOP);
            order(STOP);
        }

        private void readEither() {
            readBoth();
            for (int k = 0; k < MOST_BYTES && kind == OR; k++) {
                next();
                readBoth();
                order(OR);
            }
        }

        private void readBoth() {
            readAsk();
            for (int k = 0; k < MOST_BYTES && kind == AND; k++) {
                next();
                readAsk();
                order(AND);
            }
        }

        private void readAsk() {
            if (kind == NOT) {
                if (opens()) {
                    next();
                    readAsk();
                    order(NOT);
                    open--;
                }
                return;
            }
            readSum();
            int comparison = kind;
            if (comparison < LESS || comparison > UNLIKE) {
                fail(CANNOT_STAND);
                return;
            }
            next();
            readSum();
            order(comparison);
        }

        private void readSum() {
            readProduct();
            for (int k = 0; k < MOST_BYTES && (kind == PLUS || kind == MINUS); k++) {
                int sign = kind;
                next();
                readProduct();
                order(sign);
            }
        }

        private void readProduct() {
            readOne();
            for (int k = 0; k < MOST_BYTES && (kind == TIMES || kind == OVER); k++) {
                int sign = kind;
                next();
                readOne();
                order(sign);
            }
        }

        private void readOne() {
            if (kind == NUMBER) {
                readNumber();
            } else if (kind == NAME) {
                readName();
            } else if (kind != OPEN && kind != MINUS && kind != IF) {
                fail(CANNOT_STAND);
            } else if (opens()) {
                readOpened();
                open--;
            }
        }

        private void readNumber() {
            int value = tokens.valueAt(at);
            if (value > GREATEST_NUMBER) {
                fail(NUMBER_TOO_GREAT);
                return;
            }
            orderWith(NUMBER, value);
            next();
        }

        private void readName() {
            int name = tokens.valueAt(at);
            if ((name >= RIDER) != (clause == LIKES)) {
                fail(NAME_OF_ANOTHER);
                return;
            }
            orderWith(NAME, name);
            next();
        }

        private void readOpened() {
            int opener = kind;
            next();
            if (opener == OPEN) {
                readSum();
                take(CLOSE);
            } else if (opener == MINUS) {
                readOne();
                order(NEGATE);
            } else {
                readIf();
            }
        }

        private void readIf() {
            readEither();
            take(THEN);
            int toElse = orderWith(THEN, 0);
            readSum();
            take(ELSE);
            int toEnd = orderWith(ELSE, 0);
            landHere(toElse);
            readSum();
            take(END);
            landHere(toEnd);
        }

        private boolean opens() {
            if (open >= MOST_OPEN) {
                fail(TOO_DEEP);
                return false;
            }
            open++;
            return true;
        }

        private void take(int wanted) {
            if (kind == wanted) {
                next();
            } else {
                fail(CANNOT_STAND);
            }
        }

        private void next() {
            if (fault == 0) {
                at++;
                kind = tokens.kindAt(at);
            }
        }

        private void fail(int what) {
            if (fault == 0) {
                fault = what;
                place = tokens.placeAt(at);
                kind = NO_TOKEN;
            }
        }

        private void order(int what) {
            if (length < orders.length) {
                orders[length] = what;
                length++;
            }
        }

        private int orderWith(int what, int value) {
            order(what);
            order(value);
            return length - 1;
        }

        private void landHere(int hole) {
            if (hole >= 0 && hole < orders.length) {
                orders[hole] = length;
            }
        }
    }

    /** Works out the orders of a text. */
    private static final class Mind {
        private static final int GREATEST = 1000000;
        // Five sides can wait (of or, and, a comparison, a sum, a product) in each of nine levels.
        private static final int MOST_WAITING = 64;

        private final int[] names = new int[NAMES];
        private final int[] waiting = new int[MOST_WAITING];
        private int height;

        void name(int name, int value) {
            if (name >= 0 && name < NAMES) {
                names[name] = value;
            }
        }

        int value(int[] orders, int start) {
            height = 0;
            int at = start;
            // Jumps go forward alone, so no order is come to twice.
            for (int k = 0; k < orders.length && at >= 0 && at < orders.length && orders[at] != STOP; k++) {
                int with = at + 1 < orders.length ? orders[at + 1] : 0;
                switch (orders[at]) {
                    case NUMBER:
                        push(with);
                        at += 2;
                        break;
                    case NAME:
                        push(with >= 0 && with < NAMES ? names[with] : 0);
                        at += 2;
                        break;
                    case THEN:
                        at = pop() == 0 ? with : at + 2;
                        break;
                    case ELSE:
                        at = with;
                        break;
                    case NOT:
                        push(pop() == 0 ? 1 : 0);
                        at++;
                        break;
                    case NEGATE:
                        push(-pop());
                        at++;
                        break;
                    default:
                        int right = pop();
                        push(held(join(orders[at], pop(), right)));
                        at++;
                        break;
                }
            }
            return pop();
        }

        private void push(int value) {
            if (height < waiting.length) {
                waiting[height] = value;
                height++;
            }
        }

        private int pop() {
            if (height <= 0) {
                return 0;
            }
            height--;
            return waiting[height];
        }

        private static long join(int order, long left, long right) {
            switch (order) {
                case PLUS: return left + right;
                case MINUS: return left - right;
                case TIMES: return left * right;
                case OVER: return right == 0 ? 0 : left / right;
                case LESS: return left < right ? 1 : 0;
                case LESS_OR_LIKE: return left <= right ? 1 : 0;
                case MORE: return left > right ? 1 : 0;
                case MORE_OR_LIKE: return left >= right ? 1 : 0;
                case LIKE: return left == right ? 1 : 0;
                case UNLIKE: return left != right ? 1 : 0;
                case OR: return left | right;
                case AND: return left & right;
                default: return 0;
            }
        }

        private static int held(long value) {
            return (int) Math.max(-GREATEST, Math.min(GREATEST, value));
        }
    }

    /** What habits make of poses; what was worked out once is known till a cell's kind changes. */
    private static final class Legs {
        private final State state;
        private final Mind mind;
        private final int[] known;

        Legs(State state, Mind mind) {
            this.state = state;
            this.mind = mind;
            known = new int[MOST_TEXTS * TAPS * state.posesInAll()];
            Arrays.fill(known, NONE);
        }

        void forget() {
            Arrays.fill(known, NONE);
        }

        /** As goes() answers, for a text, a pose and a tap that are. */
        int step(int habit, int pose, int tap) {
            int at = (habit * state.posesInAll() + pose) * TAPS + tap;
            if (at < 0 || at >= known.length) {
                return pose;
            }
            if (known[at] == NONE) {
                known[at] = workOut(habit, pose, tap);
            }
            return known[at];
        }

        private int workOut(int habit, int pose, int tap) {
            Script script = state.scriptOf(habit);
            if (script == null) {
                return pose;
            }
            int ahead = cellAhead(pose);
            int kindAhead = ahead == NONE ? WALL : state.kinds.at(ahead);
            lookAround(pose, tap, kindAhead);
            if (script.fears != NONE && mind.value(script.orders, script.fears) != 0) {
                return pose + REFUSED;
            }
            int wish = script.does == NONE ? plainDeed(tap) : mind.value(script.orders, script.does);
            switch (Math.max(0, Math.min(4, wish))) {
                case 1: return kindAhead == WALL ? pose + BUMPED : 4 * ahead + pose % 4;
                case 2: return turned(pose, 3);
                case 3: return turned(pose, 1);
                case 4: return turned(pose, 2);
                default: return pose;
            }
        }

        private void lookAround(int pose, int tap, int kindAhead) {
            int cell = pose / 4;
            mind.name(TAP, tap);
            mind.name(HEADING, pose % 4);
            mind.name(X, cell % state.w);
            mind.name(Y, cell / state.w);
            mind.name(HERE, state.kinds.at(cell));
            mind.name(AHEAD, kindAhead);
        }

        private int cellAhead(int pose) {
            int x = pose / 4 % state.w;
            int y = pose / 4 / state.w;
            switch (pose % 4) {
                case 0: return y > 0 ? pose / 4 - state.w : NONE;
                case 1: return x < state.w - 1 ? pose / 4 + 1 : NONE;
                case 2: return y < state.h - 1 ? pose / 4 + state.w : NONE;
                default: return x > 0 ? pose / 4 - 1 : NONE;
            }
        }

        private static int plainDeed(int tap) {
            return tap == 3 ? 0 : tap + 1;
        }

        private static int turned(int pose, int quarters) {
            return pose / 4 * 4 + (pose % 4 + quarters) % 4;
        }
    }

    /**
     * Goes through rows of poses, one pose for each text, by how many taps lead there, in the order
     * found, then by taps: so the first row that is there has the fewest taps and the lowest of these.
     */
    private static final class Search {
        private static final int MOST_FOUND = 3001;
        private static final int BASE = TAPS * MOST_CELLS;
        private static final int SLOT_BITS = 13;
        private static final int SLOTS = 1 << SLOT_BITS;

        private final Legs legs;
        private final Ints texts = new Ints(MOST_TEXTS_AT_ONCE);
        private final int[] rows = new int[MOST_FOUND];
        private final int[] before = new int[MOST_FOUND];
        private final int[] tapTo = new int[MOST_FOUND];
        // Which row of poses stands in a slot, counted from 1; 0 if none.
        private final int[] slots = new int[SLOTS];
        private int found;
        private int goal;

        Search(Legs legs) {
            this.legs = legs;
        }

        void goTo(int cell) {
            goal = cell;
            texts.cutTo(0);
        }

        void goApart() {
            goal = NONE;
            texts.cutTo(0);
        }

        void add(int text) {
            texts.add(text);
        }

        /** How many taps; NONE or SPENT without. */
        int seek(int pose) {
            Arrays.fill(slots, 0);
            found = 0;
            int start = 0;
            for (int k = 0; k < texts.size(); k++) {
                start = start * BASE + pose;
            }
            keep(start, slotOf(start), NONE, NONE);
            if (isThere(start)) {
                return 0;
            }
            for (int head = 0; head < found && head < MOST_FOUND; head++) {
                for (int tap = 0; tap < TAPS; tap++) {
                    int row = rowBehind(rows[head], tap);
                    int slot = slotOf(row);
                    if (slots[slot] != 0) {
                        continue;
                    }
                    keep(row, slot, head, tap);
                    // The last row ends it as spent even where it is there.
                    if (found >= MOST_FOUND) {
                        return SPENT;
                    }
                    if (isThere(row)) {
                        return tapsToLatest();
                    }
                }
            }
            return NONE;
        }

        /** The i-th of so many taps that lead to the row that was found last. */
        int tapAt(int count, int i) {
            int at = found - 1;
            for (int k = count - 1; k > i && at > 0; k--) {
                at = before[at];
            }
            return at > 0 ? tapTo[at] : NONE;
        }

        private int tapsToLatest() {
            int count = 0;
            int at = found - 1;
            for (int k = 0; k < MOST_FOUND && at > 0; k++) {
                at = before[at];
                count++;
            }
            return count;
        }

        private int rowBehind(int row, int tap) {
            int rest = row;
            int behind = 0;
            int place = 1;
            for (int k = texts.size() - 1; k >= 0; k--) {
                behind += place * poseOf(legs.step(texts.at(k), rest % BASE, tap));
                rest /= BASE;
                place *= BASE;
            }
            return behind;
        }

        private boolean isThere(int row) {
            int rest = row;
            int last = row % BASE;
            boolean isAllAtGoal = true;
            boolean isAllLike = true;
            for (int k = 0; k < texts.size(); k++) {
                isAllAtGoal = isAllAtGoal && rest % BASE / 4 == goal;
                isAllLike = isAllLike && rest % BASE == last;
                rest /= BASE;
            }
            return goal == NONE ? !isAllLike : isAllAtGoal;
        }

        /** The slot that a row has, or would have; there are more slots than rows, so one is free. */
        private int slotOf(int row) {
            int slot = row * 0x9E3779B1 >>> 32 - SLOT_BITS;
            for (int k = 0; k < SLOTS && slots[slot] != 0 && rows[slots[slot] - 1] != row; k++) {
                slot = (slot + 1) % SLOTS;
            }
            return slot;
        }

        private void keep(int row, int slot, int from, int tap) {
            if (found < MOST_FOUND) {
                rows[found] = row;
                before[found] = from;
                tapTo[found] = tap;
                found++;
                slots[slot] = found;
            }
        }
    }

    /** Weds by one side: who asks is kept till one comes whom the asked one likes more. */
    private static final class Wedding {
        private static final int BASE = MOST_OF_A_SIDE;

        private final State state;
        private final Mind mind;
        private final int[] askerLikes = new int[BASE * BASE];
        private final int[] askedLikes = new int[BASE * BASE];
        private final boolean[] hasAsked = new boolean[BASE * BASE];
        private final int[] keptBy = new int[BASE];
        private final int[] keeps = new int[BASE];
        private int askers;
        private int asked;

        Wedding(State state, Mind mind) {
            this.state = state;
            this.mind = mind;
        }

        /** The carrier whom a rider has then, or NONE. */
        int carrierOf(int rider, int side, Script script) {
            askers = side == 0 ? state.sights.size() : state.paces.size();
            asked = side == 0 ? state.paces.size() : state.sights.size();
            begin();
            learn(side, script);
            // Nobody asks anybody twice, so there are no more askings than these.
            for (int k = 0; k < BASE * BASE; k++) {
                oneAsks();
            }
            if (rider < 0 || rider >= BASE) {
                return NONE;
            }
            return side == 0 ? keptBy[rider] : keeps[rider];
        }

        private void begin() {
            Arrays.fill(keptBy, NONE);
            Arrays.fill(keeps, NONE);
            for (int k = 0; k < BASE * BASE; k++) {
                hasAsked[k] = false;
            }
        }

        private void learn(int side, Script script) {
            for (int one = 0; one < askers; one++) {
                for (int other = 0; other < asked; other++) {
                    int rider = side == 0 ? one : other;
                    int carrier = side == 0 ? other : one;
                    askerLikes[one * BASE + other] = liking(script, rider, carrier, side);
                    askedLikes[other * BASE + one] = liking(script, rider, carrier, 1 - side);
                }
            }
        }

        private int liking(Script script, int rider, int carrier, int asks) {
            if (script.likes == NONE) {
                return 0;
            }
            mind.name(RIDER, rider);
            mind.name(CARRIER, carrier);
            mind.name(SIGHT, state.sights.at(rider));
            mind.name(PACE, state.paces.at(carrier));
            mind.name(ASKS, asks);
            return mind.value(script.orders, script.likes);
        }

        private void oneAsks() {
            for (int one = 0; one < askers; one++) {
                int other = keptBy[one] == NONE ? likedMost(one) : NONE;
                if (other != NONE) {
                    hasAsked[one * BASE + other] = true;
                    answer(one, other);
                    return;
                }
            }
        }

        private int likedMost(int one) {
            int best = NONE;
            for (int other = 0; other < asked; other++) {
                boolean isFree = !hasAsked[one * BASE + other];
                if (isFree && (best == NONE || askerLikes[one * BASE + other] > askerLikes[one * BASE + best])) {
                    best = other;
                }
            }
            return best;
        }

        private void answer(int one, int other) {
            int rival = keeps[other];
            if (rival != NONE) {
                int gain = askedLikes[other * BASE + one] - askedLikes[other * BASE + rival];
                if (gain < 0 || gain == 0 && rival < one) {
                    return;
                }
                keptBy[rival] = NONE;
            }
            keeps[other] = one;
            keptBy[one] = other;
        }
    }

    /** Tries pairs that hinder one another on their ways home; the state's own poses stay. */
    private static final class Crowd {
        private static final int MOST_ROUNDS = 200;

        private final State state;
        private final Legs legs;
        // NONE: this pair has been at home, and is out of the town.
        private final int[] poses = new int[MOST_PAIRS];
        private int pairs;

        Crowd(State state, Legs legs) {
            this.state = state;
            this.legs = legs;
        }

        /** Behind how many rounds all have been at home, or NONE. */
        int rounds(int home) {
            begin(home);
            int length = state.taps.size();
            for (int round = 0; round <= MOST_ROUNDS; round++) {
                if (isEmpty()) {
                    return round;
                }
                if (length > 0) {
                    oneRound(state.taps.at(round % length), home);
                }
            }
            return NONE;
        }

        private void begin(int home) {
            pairs = Math.min(state.poses.size(), MOST_PAIRS);
            for (int pair = 0; pair < pairs; pair++) {
                poses[pair] = unlessHome(state.poses.at(pair), home);
            }
        }

        private static int unlessHome(int pose, int home) {
            return pose / 4 == home ? NONE : pose;
        }

        private boolean isEmpty() {
            for (int pair = 0; pair < pairs; pair++) {
                if (poses[pair] != NONE) {
                    return false;
                }
            }
            return true;
        }

        private void oneRound(int tap, int home) {
            for (int pair = 0; pair < pairs; pair++) {
                if (poses[pair] == NONE) {
                    continue;
                }
                int then = poseOf(legs.step(state.habits.at(pair), poses[pair], tap));
                boolean isElsewhere = then / 4 != poses[pair] / 4;
                if (!isElsewhere || !hasPairIn(then / 4)) {
                    poses[pair] = unlessHome(then, home);
                }
            }
        }

        private boolean hasPairIn(int cell) {
            for (int pair = 0; pair < pairs; pair++) {
                if (poses[pair] != NONE && poses[pair] / 4 == cell) {
                    return true;
                }
            }
            return false;
        }
    }

    /**
     * Settles a chase from its ends backwards: a standing is where the catcher and the thief are and
     * whose turn it is; they come to the queue by the turns that are left till the thief is caught.
     */
    private static final class Chase {
        private final State state;
        private final Legs legs;
        private final int poses;
        private final int standings;
        // Turns left. Below 0 it isn't settled: of the thief's turn so many of his taps aren't yet.
        // The catcher's turns stand first, then the thief's; in each by catcher, then by thief.
        private final int[] left;
        private final int[] queue;
        private int queued;
        // From which poses one comes to pose p: from[first[p]] up to from[first[p + 1]].
        private final int[] catcherFirst;
        private final int[] catcherFrom;
        private final int[] thiefFirst;
        private final int[] thiefFrom;

        Chase(State state, Legs legs) {
            this.state = state;
            this.legs = legs;
            poses = state.posesInAll();
            standings = poses * poses;
            left = new int[2 * standings];
            queue = new int[2 * standings];
            catcherFirst = new int[poses + 1];
            catcherFrom = new int[TAPS * poses];
            thiefFirst = new int[poses + 1];
            thiefFrom = new int[TAPS * poses];
        }

        /** In how many turns he is caught, the catcher's first; NONE: never. */
        int turns(int habit, int pose, int thiefs, int thief) {
            link(habit, catcherFirst, catcherFrom);
            link(thiefs, thiefFirst, thiefFrom);
            begin();
            int asked = pose * poses + thief;
            if (asked < 0 || asked >= standings) {
                return NONE;
            }
            for (int head = 0; head < queued && head < queue.length && left[asked] < 0; head++) {
                if (queue[head] < standings) {
                    settleThiefs(queue[head]);
                } else {
                    settleCatchers(queue[head]);
                }
            }
            return left[asked] < 0 ? NONE : left[asked];
        }

        /** The lowest tap that leaves the fewest turns; of the chase that turns() settled last. */
        int firstTap(int habit, int pose, int thief, int turns) {
            for (int tap = 0; tap < TAPS; tap++) {
                int then = standings + poseOf(legs.step(habit, pose, tap)) * poses + thief;
                if (then < left.length && left[then] == turns - 1) {
                    return tap;
                }
            }
            return NONE;
        }

        private void link(int habit, int[] first, int[] from) {
            Arrays.fill(first, 0);
            for (int edge = 0; edge < TAPS * poses; edge++) {
                if (state.isPose(edge / TAPS)) {
                    first[poseOf(legs.step(habit, edge / TAPS, edge % TAPS))]++;
                }
            }
            // Now the ends of the parts; filling them backwards makes them the starts.
            for (int pose = 1; pose <= poses; pose++) {
                first[pose] += first[pose - 1];
            }
            for (int edge = 0; edge < TAPS * poses; edge++) {
                if (state.isPose(edge / TAPS)) {
                    int then = poseOf(legs.step(habit, edge / TAPS, edge % TAPS));
                    first[then]--;
                    from[first[then]] = edge / TAPS;
                }
            }
        }

        private void begin() {
            Arrays.fill(left, -TAPS);
            queued = 0;
            for (int pose = 0; pose < poses; pose++) {
                for (int heading = 0; heading < 4 && state.isPose(pose); heading++) {
                    int caught = pose * poses + pose / 4 * 4 + heading;
                    settle(caught, 0);
                    settle(standings + caught, 0);
                }
            }
        }

        private void settle(int standing, int turns) {
            left[standing] = turns;
            if (queued < queue.length) {
                queue[queued] = standing;
                queued++;
            }
        }

        /** The thief puts it off: his turn is settled with the last of his taps. */
        private void settleThiefs(int settled) {
            int catcher = settled / poses;
            int thief = settled % poses;
            for (int k = thiefFirst[thief]; k < thiefFirst[thief + 1]; k++) {
                int before = standings + catcher * poses + thiefFrom[k];
                if (left[before] < 0) {
                    left[before]++;
                    if (left[before] == 0) {
                        settle(before, left[settled] + 1);
                    }
                }
            }
        }

        private void settleCatchers(int settled) {
            int catcher = (settled - standings) / poses;
            int thief = settled % poses;
            for (int k = catcherFirst[catcher]; k < catcherFirst[catcher + 1]; k++) {
                int before = catcherFrom[k] * poses + thief;
                if (left[before] < 0) {
                    settle(before, left[settled] + 1);
                }
            }
        }
    }
}
