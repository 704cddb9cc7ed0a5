/** Each sentence with a boundary of the document's part III and of promises 9 to 19, by a test of its own. */
public final class HandBoundsTest extends Calls {
    // Goes on at tap 0, and stays at all others.
    private static final String ON_AT_0 = "does if tap=0?1:0 end;";
    private static final String FEARS_WALLS = "fears ahead=1;";

    private static int[] taps(int often, int tap) {
        int[] all = new int[often];
        for (int k = 0; k < often; k++) all[k] = tap;
        return all;
    }

    private static void tapAsGoes() {
        sentence(9, "A TAP for a PAIR: as goes().");
        OneEyeTwoLegs x = town("", FEARS_WALLS);
        int pose = 1;
        x.pair(pose, 0);
        x.pair(9, 1);
        int[] taps = {0, 0, 0, 2, 0, 3, 1};
        for (int tap : taps) {
            int answer = x.goes(0, pose, tap);
            due("tap " + tap, x.tap(0, tap), answer);
            pose = answer % 200;
            due("its pose", x.of(0, 0), pose);
        }
        due("a bump", x.tap(0, 0), 221);
        due("he stays", x.of(0, 0), 21);
        due("a refusal", x.tap(1, 1), 409);
        due("nothing happens", x.of(1, 0), 9);
    }

    private static void tapOfOthers() {
        sentence(9, "NONE for others.");
        OneEyeTwoLegs x = town("");
        due("no pair yet", x.tap(0, 0), NONE);
        x.pair(1, 0);
        for (int o : OUTSIDE) {
            due("tap(" + o + ", 0)", x.tap(o, 0), NONE);
            due("tap(0, " + o + ")", x.tap(0, o), NONE);
        }
        due("a pair too many", x.tap(1, 0), NONE);
        due("a tap too many", x.tap(0, 4), NONE);
        due("no step", x.about(5), 0);
        due("its pose", x.of(0, 0), 1);
    }

    private static void pairsDoNotHinder() {
        sentence(9, "(PAIRS don't hinder one another)");
        OneEyeTwoLegs x = town("");
        for (int k = 0; k < 6; k++) x.pair(1, 0);
        for (int k = 0; k < 6; k++) due("into one cell", x.tap(k, 0), 5);
        row(x, 0);
        for (int k = 0; k < 6; k++) due("no bump", x.walk(k), 0);
        for (int k = 0; k < 6; k++) due("its pose", x.of(k, 0), 9);
    }

    private static void sixteenTaps() {
        sentence(10, "A ROW (of TAPS, 16 at most; at first none)");
        OneEyeTwoLegs x = town(5, 5, "");
        due("at first none", x.about(4), 0);
        for (int k = 1; k <= 16; k++) due("tap " + k, x.row(k % 4), k);
        sentence(10, "NONE for others, or if it has 16.");
        for (int tap = 0; tap < 4; tap++) due("a 17th", x.row(tap), NONE);
        due("how many", x.about(4), 16);
        x.pair(49, 0);
        // 1 2 3 0, four times: left, right, stay, on
        due("they are as they were", x.walk(0), 2);
        due("its pose", x.of(0, 0), 57);
    }

    private static void anEmptyRow() {
        sentence(10, "A TAP more of THE ROW (NONE: it is empty): how many it has.");
        OneEyeTwoLegs x = town("");
        due("empty when it is empty", x.row(NONE), 0);
        for (int tap = 0; tap < 4; tap++) due("tap " + tap, x.row(tap), tap + 1);
        due("empty", x.row(NONE), 0);
        due("how many", x.about(4), 0);
        due("the first again", x.row(3), 1);
        for (int k = 2; k <= 16; k++) x.row(3);
        due("empty when it has 16", x.row(NONE), 0);
        due("how many", x.about(4), 0);
    }

    private static void rowOfOthers() {
        sentence(10, "NONE for others, or if it has 16.");
        OneEyeTwoLegs x = town("");
        x.row(2);
        int[] others = {4, 5, -2, -3, MIN, MAX};
        for (int o : others) due("row(" + o + ")", x.row(o), NONE);
        due("how many", x.about(4), 1);
    }

    private static void walkOfAll() {
        sentence(11, "THE ROW is WALKED by a PAIR: how often it BUMPS.");
        OneEyeTwoLegs x = town("", FEARS_WALLS);
        x.pair(0, 0);
        x.pair(0, 1);
        due("no tap", x.walk(0), 0);
        due("its pose", x.of(0, 0), 0);
        row(x, taps(16, 0));
        due("16 of 16", x.walk(0), 16);
        due("he refuses, he doesn't bump", x.walk(1), 0);
        sentence(11, "is WALKED by a PAIR: all its TAPS.");
        row(x, 2, 0, 0, 0, 0, 2, 0, 0);
        due("some of them", x.walk(0), 3);
        due("its pose", x.of(0, 0), 22);
        due("the other's", x.of(1, 0), 0);
    }

    private static void walkOfOthers() {
        sentence(11, "NONE for others.");
        OneEyeTwoLegs x = town("");
        x.row(0);
        due("no pair yet", x.walk(0), NONE);
        x.pair(1, 0);
        for (int o : OUTSIDE) due("walk(" + o + ")", x.walk(o), NONE);
        due("a pair too many", x.walk(1), NONE);
        due("no step", x.about(5), 0);
        due("its pose", x.of(0, 0), 1);
    }

    private static void stepsOfBothKinds() {
        sentence(12, "STEPS: both; the latest 30 can be taken back, the latest first (the PAIR's POSE is as ahead of it)");
        OneEyeTwoLegs x = town("", FEARS_WALLS);
        x.pair(1, 0);
        x.pair(8, 1);
        row(x, 2, 0);
        x.tap(0, 0);
        x.walk(0);
        x.tap(1, 0);
        x.walk(1);
        x.tap(0, 0);
        due("steps", x.about(5), 5);
        sentence(12, "The latest STEP is taken back: its PAIR.");
        int[][] before = {{0, 18}, {1, 8}, {1, 8}, {0, 5}, {0, 1}};
        for (int k = 0; k < 5; k++) {
            due("its pair", x.undo(), before[k][0]);
            due("its pose", x.of(before[k][0], 0), before[k][1]);
            due("steps", x.about(5), 4 - k);
        }
        x.row(NONE);
        x.walk(0);
        due("a walk of no tap is one, too", x.about(5), 1);
        x.tap(0, 0);
        x.undo();
        x.tap(0, 2);
        x.tap(0, 0);
        int[] poses = {2, 1, 1};
        for (int pose : poses) {
            due("steps behind one that was taken back", x.undo(), 0);
            due("its pose", x.of(0, 0), pose);
        }
    }

    private static void theLatest30() {
        sentence(12, "STEPS: both; the latest 30 can be taken back, the latest first (the PAIR's POSE is as ahead of it)");
        for (int steps = 29; steps <= 33; steps++) {
            OneEyeTwoLegs x = town("");
            x.pair(0, 0);
            for (int k = 0; k < steps; k++) x.tap(0, 2);
            int kept = Math.min(30, steps);
            due("of " + steps, x.about(5), kept);
            for (int k = 1; k <= kept; k++) {
                due("undo", x.undo(), 0);
                due("its pose", x.of(0, 0), (steps - k) % 4);
            }
            due("one more", x.undo(), NONE);
            due("its pose stays", x.of(0, 0), steps - kept);
        }
        OneEyeTwoLegs x = town("");
        x.pair(0, 0);
        x.pair(0, 0);
        row(x, 2, 2);
        x.tap(1, 2);
        for (int k = 0; k < 30; k++) x.walk(0);
        due("the first of 31 is gone", x.about(5), 30);
        for (int k = 0; k < 30; k++) due("a walk", x.undo(), 0);
        due("none", x.undo(), NONE);
        due("the other's tap stays", x.of(1, 0), 1);
    }

    private static void nothingToTakeBack() {
        sentence(12, "NONE: there is none.");
        OneEyeTwoLegs x = town("");
        due("no pair", x.undo(), NONE);
        x.pair(1, 0);
        due("no step", x.undo(), NONE);
        x.tap(0, 0);
        x.undo();
        due("no step more", x.undo(), NONE);
        due("its pose", x.of(0, 0), 1);
        x.goes(0, 1, 0);
        x.crowd(5);
        x.row(0);
        due("these are none", x.undo(), NONE);
    }

    private static void aKindForgetsAll() {
        sentence(12, "to tell a KIND forgets all");
        for (int kind = 0; kind < 4; kind++) {
            OneEyeTwoLegs x = town("");
            x.pair(1, 0);
            x.pair(1, 0);
            x.row(0);
            x.tap(0, 0);
            x.walk(1);
            x.tap(1, 2);
            due("a kind of a cell", x.cell(3, kind), true);
            due("steps", x.about(5), 0);
            due("undo", x.undo(), NONE);
            due("poses stay", x.of(0, 0), 5);
            due("poses stay", x.of(1, 0), 6);
            x.tap(0, 1);
            due("a step more", x.undo(), 0);
            due("its pose", x.of(0, 0), 5);
        }
    }

    private static void ofAPair() {
        sentence(13, "Of a PAIR: 0 its POSE, 1 its HABIT.");
        OneEyeTwoLegs x = town("", "", "", "");
        for (int k = 0; k < 6; k++) x.pair(23 - 4 * k, 3 - k / 2);
        for (int k = 0; k < 6; k++) {
            due("pose of " + k, x.of(k, 0), 23 - 4 * k);
            due("habit of " + k, x.of(k, 1), 3 - k / 2);
        }
        sentence(13, "NONE for others.");
        int[] others = {MIN, -2, -1, 2, 3, MAX};
        for (int o : others) due("of(0, " + o + ")", x.of(0, o), NONE);
        for (int o : OUTSIDE) due("of(" + o + ", 0)", x.of(o, 0), NONE);
        due("of(6, 0)", x.of(6, 0), NONE);
        due("of(6, 1)", x.of(6, 1), NONE);
        due("no pair", town("").of(0, 0), NONE);
    }

    private static void fewestIs(OneEyeTwoLegs x, int texts, int pose, int cell, int... taps) {
        String call = "fewest(" + texts + ", " + pose + ", " + cell + ", ";
        due(call + "NONE)", x.fewest(texts, pose, cell, NONE), taps.length);
        for (int i = 0; i < taps.length; i++) due(call + i + ")", x.fewest(texts, pose, cell, i), taps[i]);
        due(call + taps.length + ")", x.fewest(texts, pose, cell, taps.length), NONE);
    }

    private static void threeTextsAtMost() {
        sentence(14, "for a set of TEXTS (bits, 3 at most)");
        OneEyeTwoLegs x = new OneEyeTwoLegs(3, 2);
        for (int texts = 0; texts <= 4; texts++) {
            for (int bits = -1; bits <= 32; bits++) {
                boolean fits = bits > 0 && bits < 1 << texts && bits != 15;
                due(bits + " of " + texts + " texts", x.fewest(bits, 0, 0, NONE), fits ? 0 : NONE);
            }
            x.text();
        }
        int[] others = {MIN, MIN + 1, MAX, 1 << 16, 1 << 30};
        for (int o : others) due("fewest of " + o, x.fewest(o, 0, 0, NONE), NONE);
    }

    private static void fewestByEach() {
        sentence(14, "the fewest TAPS behind which a carrier is there by each of these HABITS");
        OneEyeTwoLegs x = town(5, 2, "", "does if tap=1?1:0 end;", "does if x=1?0:if tap=0?1:0 end end;", FEARS_WALLS);
        fewestIs(x, 1, 1, 0);
        fewestIs(x, 15 - 8, 1, 0);
        fewestIs(x, 1, 1, 4, 0, 0, 0, 0);
        fewestIs(x, 2, 1, 1, 1);
        fewestIs(x, 3, 1, 1, 0, 1);
        fewestIs(x, 5, 1, 1, 0);
        fewestIs(x, 7, 1, 1, 0, 1);
        // the bits may come in any places
        fewestIs(x, 9, 1, 4, 0, 0, 0, 0);
        fewestIs(x, 10, 1, 1, 0, 1);
        due("one of them never is there", x.fewest(5, 1, 2, NONE), NONE);
    }

    private static void howManyOrTheIth() {
        sentence(14, "FEWEST: how many TAPS (i NONE); the i-th.");
        OneEyeTwoLegs x = town(5, 5, "", "does tap;");
        fewestIs(x, 1, 0, 24, 2, 0, 0, 0, 0, 2, 0, 0, 0, 0);
        fewestIs(x, 2, 0, 24, 3, 1, 1, 1, 1, 3, 1, 1, 1, 1);
        fewestIs(x, 1, 99, 24);
        sentence(15, "TELLS: how many TAPS (i NONE); the i-th.");
        tellsIs(x, 0, 1, 0, 1);
        sentence(19, "DARK: how many (i NONE), the i-th.");
        darkIs(town(2, 2, ""), 0, 0, 0, 1, 2, 3, 4, 5, 6, 7, 8, 9, 10, 11, 12, 13, 14, 15);
    }

    private static void goneThroughInOrder() {
        sentence(14, "Gone through by how many TAPS, then in the order found, then TAPS 0 .. 3");
        OneEyeTwoLegs x = town(3, 3, "does if tap=0?3:if tap=1?2:if tap=2?0:1 end end end;", "does if tap=0?0:4-tap end;", "does if tap<2?2:if tap=2?3:1 end end;");
        // one tap, though 0 1 3 leads there, too
        fewestIs(x, 1, 16, 1, 3);
        // 0 0 is found ahead of 1 1
        fewestIs(x, 1, 16, 7, 0, 0, 3);
        fewestIs(x, 2, 16, 7, 1, 1, 3);
        // 0 and 1 find the same: it was found by 0
        fewestIs(x, 4, 16, 3, 0, 3);
        fewestIs(x, 5, 16, 1, 3);
        fewestIs(x, 3, 16, 7, 1, 1, 3);
    }

    private static void theLowestFirst() {
        sentence(14, "of like ones the lowest first TAP, then second, ..");
        OneEyeTwoLegs x = town(5, 5, "", "does if x=0 and tap=0?1:if x=1 and tap>0?1:0 end end;", "does if tap=0?0:tap end;", "does 1;");
        // behind him: left, left, on is lower than right, right, on
        fewestIs(x, 1, 48, 17, 1, 1, 0);
        fewestIs(x, 2, 1, 2, 0, 1);
        fewestIs(x, 4, 48, 17, 2, 2, 1);
        fewestIs(x, 8, 1, 4, 0, 0, 0, 0);
    }

    /** The first row of POSES that is there is found as the which-th (counted apart from the class). */
    private static void foundAs(int which, OneEyeTwoLegs x, int pose, int cell, int want) {
        int all = (1 << x.about(3)) - 1;
        due("there as number " + which, x.fewest(all, pose, cell, NONE), want);
        int[] some = {0, 1, 99, MAX};
        for (int i : some) {
            int tap = x.fewest(all, pose, cell, i);
            boolean isAsDue = want < 0 || i >= want ? tap == (want == SPENT ? SPENT : NONE) : tap >= 0 && tap < 4;
            due("there as number " + which + ", tap " + i, isAsDue, true);
        }
    }

    private static void the3001st() {
        sentence(14, "a row of POSES (one for each TEXT) that is there ends it as it is found, the 3001st one, too: SPENT.");
        String mirrored = "does if tap=1?3:if tap=2?2:if tap=0?1:0 end end end;";
        // counted with the start as the first
        foundAs(3000, town(2, 4, mirrored, "does 4-tap;", "does if tap=0?4:tap end;"), 26, 5, 8);
        foundAs(3000, town(5, 5, "does tap+1;", "does x+tap;"), 21, 17, 9);
        foundAs(3001, town(3, 3, "does tap+1;", "does 4-tap;", "does if tap<=1?1:tap end;"), 16, 2, SPENT);
        foundAs(3001, town(5, 5, "does tap;", "does 3-y+tap;"), 88, 6, SPENT);
        foundAs(3001, town(5, 5, "does tap;", "does y+tap-1;"), 10, 18, SPENT);
        foundAs(3002, town(3, 3, "does tap+1;", "does 4-tap;", "does if tap=0?4:tap end;"), 30, 5, SPENT);
        // there are 3000 in all, and none is there
        foundAs(0, town(3, 5, "does tap;", "does x+y-tap;"), 8, 14, NONE);
        foundAs(0, town(2, 3, "does tap+1;", "does 3-y+tap;", "does x*tap;"), 20, 0, NONE);
        OneEyeTwoLegs x = town(5, 5, "does tap;", "does 3-y+tap;");
        due("the first one is there", x.fewest(3, 88, 22, NONE), 0);
        due("no place of a tap", x.fewest(3, 88, 6, -2), NONE);
    }

    private static void fewestOfOthers() {
        sentence(14, "NONE: none, there is none such, and for others.");
        OneEyeTwoLegs x = town("", "does 0;");
        due("none", x.fewest(2, 1, 1, NONE), NONE);
        due("none", x.fewest(2, 1, 1, 0), NONE);
        due("there is none such", x.fewest(1, 1, 1, 1), NONE);
        due("there is none such, at once there", x.fewest(1, 1, 0, 0), NONE);
        int[] places = {MIN, -3, -2, 1, 2, MAX};
        for (int i : places) due("the " + i + "th", x.fewest(1, 1, 1, i), NONE);
        for (int o : OUTSIDE) {
            due("pose " + o, x.fewest(1, o, 1, NONE), NONE);
            due("cell " + o, x.fewest(1, 1, o, NONE), NONE);
        }
        due("a pose too many", x.fewest(1, 24, 1, NONE), NONE);
        due("a cell too many", x.fewest(1, 1, 6, NONE), NONE);
        fewestIs(x, 1, 23, 0, 0, 0, 2, 0);
        x.cell(5, 1);
        due("to a wall", x.fewest(1, 1, 5, NONE), NONE);
        due("from a wall", x.fewest(1, 20, 1, NONE), NONE);
    }

    private static void tellsIs(OneEyeTwoLegs x, int one, int other, int pose, int... taps) {
        String call = "tells(" + one + ", " + other + ", " + pose + ", ";
        due(call + "NONE)", x.tells(one, other, pose, NONE), taps.length);
        for (int i = 0; i < taps.length; i++) due(call + i + ")", x.tells(one, other, pose, i), taps[i]);
        due(call + taps.length + ")", x.tells(one, other, pose, taps.length), NONE);
    }

    private static void tellsApart() {
        sentence(15, "for two TEXTS from a POSE: the fewest TAPS behind which their POSES are unlike; of like ones likewise, gone through likewise; none.");
        OneEyeTwoLegs x = town(5, 2, "", "does if x=1 and tap=0?0:if tap=3?4:tap+1 end end;", "does if x=4 and tap>1?4:if tap=3?0:tap+1 end end;", FEARS_WALLS);
        // by 0 0 too, but 3 is one tap
        tellsIs(x, 0, 1, 1, 3);
        tellsIs(x, 1, 0, 1, 3);
        tellsIs(x, 0, 2, 1, 0, 0, 0, 0, 2);
        tellsIs(x, 1, 2, 5, 0);
        // a turn that is refused at a wall tells at once, the lowest of these first
        tellsIs(x, 0, 3, 0, 1);
        tellsIs(x, 0, 3, 3, 1);
        due("the same one twice", x.tells(3, 3, 0, NONE), NONE);
        OneEyeTwoLegs y = town("", "fears ahead=1 and tap=0;", "fears 1=2;");
        due("who refuses is where who bumps is", y.tells(0, 1, 0, NONE), NONE);
        due("like ones", y.tells(0, 2, 0, 0), NONE);
        OneEyeTwoLegs z = town(5, 5, "does tap+1;", "does if x=4 and y=4 and heading=3 and tap=3?0:tap+1 end;");
        int count = z.tells(0, 1, 0, NONE);
        // right, 4 on, right, 4 on, right, about: the fewest that lead into the corner, looking back
        due("far away", count, 12);
        due("the last one tells", z.tells(0, 1, 0, count - 1), 3);
    }

    private static void tellsOfOthers() {
        sentence(15, "NONE: none, there is none such, and for others.");
        OneEyeTwoLegs x = town("", "does 0;");
        tellsIs(x, 0, 1, 1, 0);
        int[] places = {MIN, -3, -2, 1, 2, MAX};
        for (int i : places) due("the " + i + "th", x.tells(0, 1, 1, i), NONE);
        for (int o : OUTSIDE) {
            due("one " + o, x.tells(o, 1, 1, NONE), NONE);
            due("other " + o, x.tells(0, o, 1, NONE), NONE);
            due("pose " + o, x.tells(0, 1, o, NONE), NONE);
        }
        due("one too many", x.tells(2, 1, 1, NONE), NONE);
        due("other too many", x.tells(0, 2, 1, NONE), NONE);
        due("a pose too many", x.tells(0, 1, 24, NONE), NONE);
        x.cell(1, 1);
        due("from a wall", x.tells(0, 1, 4, NONE), NONE);
    }

    private static void oddsAre(OneEyeTwoLegs x, int pose, int cell, int m, long upper, long lower) {
        due("upper number of cell " + cell + " by " + m, x.odds(0, pose, cell, m, 0), upper);
        due("lower number of cell " + cell + " by " + m, x.odds(0, pose, cell, m, 1), lower);
    }

    private static void twelveTapsAtMost() {
        sentence(16, "each TAP of THE ROW (12 at most)");
        OneEyeTwoLegs x = town(ON_AT_0);
        oddsAre(x, 1, 0, 5, 1, 1);
        oddsAre(x, 1, 1, 5, 0, 1);
        row(x, taps(12, 0));
        // by 9 of 10 none of 12 is heard as it is: 9 to the 12th
        oddsAre(x, 1, 0, 9, 282429536481L, 1000000000000L);
        oddsAre(x, 1, 1, 9, 94143178827L, 250000000000L);
        oddsAre(x, 1, 2, 9, 1000000000000L - 282429536481L - 4 * 94143178827L, 1000000000000L);
        for (int k = 13; k <= 16; k++) {
            x.row(0);
            due("upper number of " + k, x.odds(0, 1, 0, 9, 0), NONE);
            due("lower number of " + k, x.odds(0, 1, 0, 9, 1), NONE);
        }
        x.row(NONE);
        oddsAre(x, 1, 0, 9, 1, 1);
    }

    private static void misheardAsTheNext() {
        sentence(16, "is heard as it is, or by m of 10 as the next one (of 3: 0), apart from the others");
        OneEyeTwoLegs x = town(ON_AT_0);
        row(x, 3, 3);
        oddsAre(x, 1, 0, 1, 81, 100);
        oddsAre(x, 1, 1, 1, 9, 50);
        oddsAre(x, 1, 2, 1, 1, 100);
        for (int tap = 0; tap < 4; tap++) {
            row(x, tap);
            oddsAre(x, 1, 1, 0, tap == 0 ? 1 : 0, 1);
            oddsAre(x, 1, 1, 10, tap == 3 ? 1 : 0, 1);
            oddsAre(x, 1, 1, 3, tap == 0 ? 7 : tap == 3 ? 3 : 0, tap == 0 || tap == 3 ? 10 : 1);
        }
    }

    private static void atACellByAnyHeading() {
        sentence(16, "how likely a HABIT is at a cell behind it, in lowest terms");
        OneEyeTwoLegs x = town(5, 5, "");
        int[] cells = {0, 12, 24};
        for (int p : cells) {
            for (int heading = 0; heading < 4; heading++) {
                x.row(NONE);
                oddsAre(x, 4 * p + heading, p, 3, 1, 1);
                row(x, 1, 2, 1);
                oddsAre(x, 4 * p + heading, p, 0, 1, 1);
                oddsAre(x, 4 * p + heading, (p + 1) % 25, 0, 0, 1);
                oddsAre(x, 4 * p + heading, (p + 24) % 25, 0, 0, 1);
            }
        }
        row(x, 1, 0);
        // by heading 3 at 1, by heading 1 at 2
        oddsAre(x, 48, 11, 4, 9, 25);
        oddsAre(x, 48, 13, 4, 6, 25);
        oddsAre(x, 48, 12, 4, 2, 5);
        row(x, 0);
        oddsAre(x, 98, 24, 1, 1, 1);
        oddsAre(x, 96, 19, 1, 9, 10);
        oddsAre(x, 96, 24, 1, 1, 10);
    }

    private static void inLowestTerms() {
        sentence(16, "how likely a HABIT is at a cell behind it, in lowest terms");
        OneEyeTwoLegs x = town(ON_AT_0);
        row(x, 3);
        int[] uppers = {0, 1, 1, 3, 2, 1, 3, 7, 4, 9, 1};
        int[] lowers = {1, 10, 5, 10, 5, 2, 5, 10, 5, 10, 1};
        for (int m = 0; m <= 10; m++) oddsAre(x, 1, 1, m, uppers[m], lowers[m]);
        for (int k = 2; k <= 12; k++) x.row(3);
        oddsAre(x, 1, 0, 5, 1, 4096);
        oddsAre(x, 1, 3, 5, 0, 1);
        OneEyeTwoLegs y = town("does 0;");
        row(y, taps(12, 1));
        oddsAre(y, 1, 0, 7, 1, 1);
    }

    private static void oddsOfOthers() {
        sentence(16, "ODDS (m 0 .. 10): the upper number (0), the lower one (1). NONE for others.");
        OneEyeTwoLegs x = town(ON_AT_0);
        row(x, 0);
        oddsAre(x, 1, 1, 0, 1, 1);
        oddsAre(x, 1, 1, 10, 0, 1);
        for (int what = 0; what < 2; what++) {
            for (int o : OUTSIDE) {
                due("habit " + o, x.odds(o, 1, 1, 1, what), NONE);
                due("pose " + o, x.odds(0, o, 1, 1, what), NONE);
                due("cell " + o, x.odds(0, 1, o, 1, what), NONE);
                due("m " + o, x.odds(0, 1, 1, o, what), NONE);
                due("what " + o, x.odds(0, 1, 1, 1, o), NONE);
            }
            due("a habit too many", x.odds(1, 1, 1, 1, what), NONE);
            due("a pose too many", x.odds(0, 24, 1, 1, what), NONE);
            due("a cell too many", x.odds(0, 1, 6, 1, what), NONE);
            due("m 11", x.odds(0, 1, 1, 11, what), NONE);
            due("what 2", x.odds(0, 1, 1, 1, 2), NONE);
        }
        x.cell(1, 1);
        oddsAre(x, 1, 1, 1, 0, 1);
        due("from a wall", x.odds(0, 5, 1, 1, 1), NONE);
    }

    private static void twentySeen() {
        sentence(17, "SEEN: how many there are. NONE for others, or if there are 20.");
        OneEyeTwoLegs x = town("");
        sentence(17, "SEEN (20 at most): that from a POSE at a TAP a POSE came.");
        for (int k = 1; k <= 20; k++) due("seen " + k, x.seen(23, 3, 23), k);
        due("a 21st", x.seen(1, 1, 1), NONE);
        due("how many", x.about(6), 20);
        due("it isn't one", x.holds(), 1);
    }

    private static void seenOfOthers() {
        sentence(17, "SEEN: how many there are. NONE for others, or if there are 20.");
        OneEyeTwoLegs x = town("");
        x.cell(5, 1);
        for (int o : OUTSIDE) {
            due("pose " + o, x.seen(o, 0, 0), NONE);
            due("tap " + o, x.seen(0, o, 0), NONE);
            due("then " + o, x.seen(0, 0, o), NONE);
        }
        due("a pose too many", x.seen(24, 0, 0), NONE);
        due("a tap too many", x.seen(0, 4, 0), NONE);
        due("a then too many", x.seen(0, 0, 24), NONE);
        due("from a wall", x.seen(20, 0, 0), NONE);
        due("into a wall", x.seen(0, 0, 23), NONE);
        due("how many", x.about(6), 0);
        due("holds", x.holds(), 1);
        due("without a text, too", new OneEyeTwoLegs(2, 2).seen(15, 3, 0), 1);
    }

    private static void whatHolds() {
        sentence(18, "TEXTS (bits) by which all SEEN are so");
        OneEyeTwoLegs x = new OneEyeTwoLegs(3, 2);
        due("no text", x.holds(), 0);
        x.seen(0, 3, 0);
        due("no text", x.holds(), 0);
        OneEyeTwoLegs y = town("", "does tap;", "fears ahead=1;", "does 0;");
        sentence(18, "HOLDS (bits).");
        due("none seen: all", y.holds(), 15);
        y.seen(0, 0, 0);
        due("a bump, a stay, a refusal", y.holds(), 15);
        y.seen(1, 0, 5);
        due("he goes on", y.holds(), 5);
        y.seen(0, 3, 0);
        due("all, not the latest alone", y.holds(), 5);
        y.seen(0, 1, 3);
        due("he turns", y.holds(), 1);
        y.seen(0, 1, 0);
        due("nobody does both", y.holds(), 0);
        // what isn't seen asks for nothing, not even of the first pose at the first tap
        OneEyeTwoLegs z = town("does 3;", "does 4;");
        due("none seen", z.holds(), 3);
        z.seen(23, 3, 20);
        due("one seen, at the last pose", z.holds(), 1);
        z.cell(0, 1);
        due("the first cell is a wall", z.holds(), 1);
    }

    private static void seenInAWall() {
        sentence(18, "(one with a POSE that is in a wall now never is)");
        OneEyeTwoLegs x = town("", "does 0;");
        x.seen(4, 3, 4);
        due("it holds", x.holds(), 3);
        x.cell(1, 1);
        due("both its poses are in a wall now", x.holds(), 0);
        x.cell(1, 2);
        due("they were", x.holds(), 3);
        OneEyeTwoLegs y = town("", "does 1;");
        y.seen(1, 0, 5);
        due("it holds", y.holds(), 3);
        y.cell(1, 1);
        due("the second is in a wall", y.holds(), 0);
        y.cell(1, 0);
        y.cell(0, 1);
        due("the first is in a wall", y.holds(), 0);
        y.cell(0, 3);
        due("none is", y.holds(), 3);
    }

    private static void darkIs(OneEyeTwoLegs x, int habit, int bumps, int... poses) {
        String call = "dark(" + habit + ", " + bumps + ", ";
        due(call + "NONE)", x.dark(habit, bumps, NONE), poses.length);
        for (int i = 0; i < poses.length; i++) due(call + i + ")", x.dark(habit, bumps, i), poses[i]);
        due(call + poses.length + ")", x.dark(habit, bumps, poses.length), NONE);
    }

    private static void inTheDark() {
        sentence(19, "THE ROW BUMPS just at its TAPS told (bits: the first one the lowest)");
        OneEyeTwoLegs x = town("", FEARS_WALLS);
        darkIs(x, 0, 0, 0, 1, 2, 3, 4, 5, 6, 7, 8, 9, 10, 11, 12, 13, 14, 15, 16, 17, 18, 19, 20, 21, 22, 23);
        row(x, 0, 0);
        darkIs(x, 0, 0, 1, 11, 13, 23);
        darkIs(x, 0, 1);
        darkIs(x, 0, 2, 2, 5, 6, 7, 10, 12, 16, 17, 19, 20);
        darkIs(x, 0, 3, 0, 3, 4, 8, 9, 14, 15, 18, 21, 22);
        due("a refusal is no bump", x.dark(1, 0, NONE), 24);
        due("he never bumps", x.dark(1, 2, NONE), 0);
        row(x, 0, 2, 0);
        // he bumps at the first tap alone: then he looks to the right, and there is a cell
        darkIs(x, 0, 1, 0, 4, 9, 15, 18, 22);
        row(x, taps(16, 0));
        due("16 taps", x.dark(0, 0xffff, NONE), 10);
        due("all but the first", x.dark(0, 0xfffe, NONE), 10);
        due("all but the first two", x.dark(0, 0xfffc, NONE), 4);
        due("all but the last", x.dark(0, 0x7fff, NONE), 0);
    }

    private static void darkNotInWalls() {
        sentence(19, "POSES (not in walls) from which, by a HABIT");
        OneEyeTwoLegs x = town("");
        x.cell(1, 1);
        darkIs(x, 0, 0, 0, 1, 2, 3, 8, 9, 10, 11, 12, 13, 14, 15, 16, 17, 18, 19, 20, 21, 22, 23);
        row(x, 0);
        darkIs(x, 0, 0, 2, 10, 12, 13, 17, 19, 20, 23);
        darkIs(x, 0, 1, 0, 1, 3, 8, 9, 11, 14, 15, 16, 18, 21, 22);
    }

    private static void darkOfOthers() {
        sentence(19, "NONE if there is none such, and for others.");
        OneEyeTwoLegs x = town();
        due("no text", x.dark(0, 0, NONE), NONE);
        x.text();
        due("bits of no tap", x.dark(0, 1, NONE), NONE);
        row(x, 0);
        int[] bits = {2, 3, 4, 1 << 16, -1, -2, MIN, MAX};
        for (int b : bits) due("bits " + b, x.dark(0, b, NONE), NONE);
        due("none such", x.dark(0, 1, 10), NONE);
        due("the last", x.dark(0, 1, 9), 22);
        int[] places = {MIN, -3, -2, 24, MAX};
        for (int i : places) due("the " + i + "th", x.dark(0, 1, i), NONE);
        for (int o : OUTSIDE) due("habit " + o, x.dark(o, 0, NONE), NONE);
        due("a habit too many", x.dark(1, 0, NONE), NONE);
        row(x, taps(16, 0));
        due("a 17th bit", x.dark(0, 1 << 16, NONE), NONE);
        due("a 17th bit, and all others", x.dark(0, 0x1ffff, NONE), NONE);
    }

    public static void main(String[] args) {
        tapAsGoes();
        tapOfOthers();
        pairsDoNotHinder();
        sixteenTaps();
        anEmptyRow();
        rowOfOthers();
        walkOfAll();
        walkOfOthers();
        stepsOfBothKinds();
        theLatest30();
        nothingToTakeBack();
        aKindForgetsAll();
        ofAPair();
        threeTextsAtMost();
        fewestByEach();
        howManyOrTheIth();
        goneThroughInOrder();
        theLowestFirst();
        the3001st();
        fewestOfOthers();
        tellsApart();
        tellsOfOthers();
        twelveTapsAtMost();
        misheardAsTheNext();
        atACellByAnyHeading();
        inLowestTerms();
        oddsOfOthers();
        twentySeen();
        seenOfOthers();
        whatHolds();
        seenInAWall();
        inTheDark();
        darkNotInWalls();
        darkOfOthers();
        endOf("HandBoundsTest");
    }
}
