/** What the tests by hand share: the answers that are due, the sentence that asks for them, calls that come often. */
abstract class Calls {
    static final int NONE = OneEyeTwoLegs.NONE;
    static final int SPENT = OneEyeTwoLegs.SPENT;
    static final int MIN = Integer.MIN_VALUE;
    static final int MAX = Integer.MAX_VALUE;
    // These are no cell, pose, text, tap, pair or place of anything; NONE is one of them.
    static final int[] OUTSIDE = {MIN, MIN + 1, -2, -1, MAX - 1, MAX};
    private static int wrong = 0;
    private static int promise = 0;
    private static String words = "";

    /** What comes next is due by this promise, and by these words of the document (of it, or of a term that it uses). */
    static void sentence(int number, String itsWords) {
        promise = number;
        words = " (\"" + itsWords + "\")";
    }

    static void due(String what, long got, long want) {
        if (got != want) {
            wrong++;
            System.out.println("promise " + promise + words + ": " + what + " answered " + got + ", due is " + want);
        }
    }

    static void due(String what, boolean got, boolean want) {
        due(what, got ? 1 : 0, want ? 1 : 0);
    }

    static void due(int number, String what, long got, long want) {
        promise = number;
        words = "";
        due(what, got, want);
    }

    static void due(int number, String what, boolean got, boolean want) {
        due(number, what, got ? 1 : 0, want ? 1 : 0);
    }

    static void endOf(String test) {
        System.out.println(test + (wrong == 0 ? ": all answers are as due" : ": " + wrong + " answers are not as due"));
        if (wrong != 0) System.exit(1);
    }

    /** The tape is this text then. */
    static void feed(OneEyeTwoLegs x, String text) {
        x.end(0);
        for (int at = 0; at < text.length(); at += 20) {
            int[] fours = new int[5];
            for (int k = 0; k < 20 && at + k < text.length(); k++) {
                fours[k / 4] |= text.charAt(at + k) << 24 - 8 * (k % 4);
            }
            x.feed(fours[0], fours[1], fours[2], fours[3], fours[4]);
        }
        x.end(text.length());
    }

    static int read(OneEyeTwoLegs x, String text) {
        feed(x, text);
        return x.text();
    }

    /** A town of 3 by 2 cells, unless a test wants another, with these texts. */
    static OneEyeTwoLegs town(String... texts) {
        return town(3, 2, texts);
    }

    static OneEyeTwoLegs town(int w, int h, String... texts) {
        OneEyeTwoLegs x = new OneEyeTwoLegs(w, h);
        for (String text : texts) read(x, text);
        return x;
    }

    /** THE ROW has these taps alone then. */
    static void row(OneEyeTwoLegs x, int... taps) {
        x.row(NONE);
        for (int tap : taps) x.row(tap);
    }

    static String repeat(String what, int often) {
        StringBuilder all = new StringBuilder();
        for (int k = 0; k < often; k++) all.append(what);
        return all.toString();
    }
}
