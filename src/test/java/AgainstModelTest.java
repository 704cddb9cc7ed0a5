import java.util.Random;

/** Runs of calls at random: the class must answer as the plain model does. */
public final class AgainstModelTest {
    private static final int RUNS = 1500;
    private static final int[] WILD = {Integer.MIN_VALUE, Integer.MAX_VALUE, -2, -1, 4, 5, 6, 16, 25, 100, 200, 1 << 16, 1 << 30};
    private final Random random;
    private final RandomTexts texts;
    private final OneEyeTwoLegs it;
    private final PlainModel model;
    private final StringBuilder calls = new StringBuilder();
    private boolean isWrong = false;
    private static final long[] count = new long[64];

    private AgainstModelTest(long seed) {
        random = new Random(seed);
        texts = new RandomTexts(random);
        int w = random.nextInt(8);
        int h = random.nextInt(8);
        it = new OneEyeTwoLegs(w, h);
        model = new PlainModel(w, h);
        calls.append("seed ").append(seed).append(": new OneEyeTwoLegs(").append(w).append(", ").append(h).append(")\n");
    }

    private void due(String call, long got, long want, int... args) {
        calls.append(call).append('(');
        for (int k = 0; k < args.length; k++) calls.append(k == 0 ? "" : ", ").append(args[k]);
        calls.append(") ").append(got).append('\n');
        if (got != want && !isWrong) {
            isWrong = true;
            System.out.println(calls + "due is " + want);
        }
    }

    private int oneOf(int bound) {
        if (random.nextInt(60) == 0) return WILD[random.nextInt(WILD.length)];
        return bound <= 0 ? random.nextInt(2) : random.nextInt(bound);
    }

    private int pose() { return oneOf(4 * model.w * model.h); }
    private int cell() { return oneOf(model.w * model.h); }
    private int text() { return oneOf(model.about(3)); }
    private int place() { return random.nextInt(3) > 0 ? -1 : oneOf(4); }

    private void feedText(String text) {
        due("end", it.end(0), model.end(0), 0);
        for (int at = 0; at < text.length(); at += 20) {
            int[] words = new int[5];
            for (int k = 0; k < 20; k++) {
                int sign = at + k < text.length() ? text.charAt(at + k) : 0;
                words[k / 4] |= sign << 24 - 8 * (k % 4);
            }
            due("feed", it.feed(words[0], words[1], words[2], words[3], words[4]), model.feed(words), words);
        }
        due("end", it.end(text.length()), model.end(text.length()), text.length());
    }

    private void readText() {
        feedText(texts.next());
        due("text", it.text(), model.text());
        due("fault", it.fault(0), model.fault(0), 0);
        due("fault", it.fault(1), model.fault(1), 1);
        due("about", it.about(9), model.about(9), 9);
    }

    private void oneCall(int which) {
        int a;
        int b;
        int c;
        int d;
        switch (which) {
            case 0: a = cell(); b = random.nextInt(4) == 0 ? 1 : oneOf(4); due("cell", it.cell(a, b) ? 1 : 0, model.cell(a, b) ? 1 : 0, a, b); break;
            case 1: a = pose(); b = text(); due("pair", it.pair(a, b), model.pair(a, b), a, b); break;
            case 2: a = random.nextInt(); b = random.nextInt(); due("feed", it.feed(a, b, a, b, a), model.feed(a, b, a, b, a), a, b, a, b, a); break;
            case 3: a = oneOf(model.about(9) + 2); due("end", it.end(a), model.end(a), a); break;
            case 4: readText(); break;
            case 5: a = oneOf(3); due("fault", it.fault(a), model.fault(a), a); break;
            case 6: a = text(); b = pose(); c = oneOf(4); due("goes", it.goes(a, b, c), model.goes(a, b, c), a, b, c); break;
            case 7: a = oneOf(model.about(2)); b = oneOf(4); due("tap", it.tap(a, b), model.tap(a, b), a, b); break;
            case 8: a = random.nextInt(12) == 0 ? -1 : oneOf(4); due("row", it.row(a), model.row(a), a); break;
            case 9: a = oneOf(model.about(2)); due("walk", it.walk(a), model.walk(a), a); break;
            case 10: due("undo", it.undo(), model.undo()); break;
            case 11: a = oneOf(model.about(2)); b = oneOf(2); due("of", it.of(a, b), model.of(a, b), a, b); break;
            case 12: a = oneOf(1 << model.about(3)); b = pose(); c = cell(); d = place();
                due("fewest", it.fewest(a, b, c, d), model.fewest(a, b, c, d), a, b, c, d); break;
            case 13: a = text(); b = text(); c = pose(); d = place();
                due("tells", it.tells(a, b, c, d), model.tells(a, b, c, d), a, b, c, d); break;
            case 14: a = text(); b = pose(); c = cell(); d = oneOf(11); int e = oneOf(2);
                due("odds", it.odds(a, b, c, d, e), model.odds(a, b, c, d, e), a, b, c, d, e); break;
            case 15: seeOne(); break;
            case 16: due("holds", it.holds(), model.holds()); break;
            case 17: a = text(); b = oneOf(1 << Math.min(model.about(4), random.nextInt(17))); c = place();
                due("dark", it.dark(a, b, c), model.dark(a, b, c), a, b, c); break;
            case 18: a = oneOf(10); due("rider", it.rider(a), model.rider(a), a); break;
            case 19: a = oneOf(10); due("carrier", it.carrier(a), model.carrier(a), a); break;
            case 20: a = text(); b = oneOf(2); c = oneOf(model.about(7)); due("wed", it.wed(a, b, c), model.wed(a, b, c), a, b, c); break;
            case 21: a = cell(); due("crowd", it.crowd(a), model.crowd(a), a); break;
            case 22: a = text(); b = pose(); c = text(); d = pose();
                due("chase", it.chase(a, b, c, d), model.chase(a, b, c, d), a, b, c, d);
                due("hunt", it.hunt(a, b, c, d), model.hunt(a, b, c, d), a, b, c, d); break;
            case 23: due("image", it.image(), model.image()); break;
            case 24: due("back", it.back(), model.back()); break;
            default: for (int k = -3; k < 38; k++) due("about", it.about(k), model.about(k), k);
        }
    }

    private void seeOne() {
        int pose = pose();
        int tap = oneOf(4);
        int answer = model.goes(text(), pose, tap);
        int then = random.nextInt(4) == 0 || answer < 0 ? pose() : answer % 200;
        due("seen", it.seen(pose, tap, then), model.seen(pose, tap, then), pose, tap, then);
    }

    private void tellAbout() {
        for (int k = 0; k < 10; k++) due("about", it.about(k), model.about(k), k);
        for (int k = 0; k < 6; k++) due("of", it.of(k, 0), model.of(k, 0), k, 0);
    }

    private boolean passes() {
        int[] often = {2, 2, 1, 1, 3, 1, 4, 6, 6, 4, 4, 2, 4, 3, 4, 3, 3, 4, 2, 2, 4, 3, 1, 1, 1, 1};
        int sum = 0;
        for (int o : often) sum += o;
        int calls = 20 + random.nextInt(150);
        for (int k = 0; k < calls && !isWrong; k++) {
            int pick = random.nextInt(sum);
            int which = 0;
            while (pick >= often[which]) pick -= often[which++];
            if (which == 24 && random.nextInt(3) > 0) which = 4;
            count[which]++;
            oneCall(which);
        }
        tellAbout();
        return !isWrong;
    }

    public static void main(String[] args) {
        int runs = args.length > 0 ? Integer.parseInt(args[0]) : RUNS;
        long first = args.length > 1 ? Long.parseLong(args[1]) : 1;
        int wrong = 0;
        for (int run = 0; run < runs && wrong < 3; run++) {
            if (!new AgainstModelTest(first + run).passes()) wrong++;
        }
        System.out.println(wrong == 0 ? "AgainstModelTest: " + runs + " runs are as the model's" : "AgainstModelTest: wrong");
        if (wrong != 0) System.exit(1);
    }
}
