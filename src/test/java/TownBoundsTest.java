/** Each sentence with a boundary of the document's part I and of promises 1, 2, 3, 8 and 28, by a test of its own. */
public final class TownBoundsTest extends Calls {
    private static void nearestSizes() {
        sentence(1, "W by H cells (2 to 5 each; others: the nearest of these)");
        int[][] sizes = {{MIN, 2}, {-1, 2}, {0, 2}, {1, 2}, {2, 2}, {3, 3}, {4, 4}, {5, 5}, {6, 5}, {7, 5}, {MAX, 5}};
        for (int[] w : sizes) {
            for (int[] h : sizes) {
                OneEyeTwoLegs x = new OneEyeTwoLegs(w[0], h[0]);
                due("W of " + w[0], x.about(0), w[1]);
                due("H of " + h[0], x.about(1), h[1]);
                due("the last cell", x.cell(w[1] * h[1] - 1, 2), true);
                due("one more", x.cell(w[1] * h[1], 2), false);
            }
        }
    }

    private static void firstImage() {
        sentence(1, "THE IMAGE is this.");
        OneEyeTwoLegs x = town("");
        x.cell(4, 2);
        x.pair(0, 0);
        x.tap(0, 1);
        x.row(1);
        x.seen(0, 0, 0);
        x.rider(1);
        x.carrier(1);
        due("back()", x.back(), 0);
        due("W", x.about(0), 3);
        due("H", x.about(1), 2);
        for (int what = 2; what < 16; what++) due("about(" + what + ")", x.about(what), 0);
    }

    private static void fiveHundredAndTwelveCalls() {
        sentence(1, "An object is used for at most 512 calls after it has been made");
        OneEyeTwoLegs x = new OneEyeTwoLegs(2, 2);
        x.text();
        x.pair(0, 0);
        for (int call = 3; call <= 511; call++) due("call " + call, x.tap(0, 2), (call - 2) % 4);
        due("the 512th call", x.of(0, 0), 509 % 4);
    }

    private static void constants() {
        sentence(1, "`NONE = -1`: None.");
        due("NONE", OneEyeTwoLegs.NONE, -1);
        sentence(1, "`SPENT = -2`: Too many.");
        due("SPENT", OneEyeTwoLegs.SPENT, -2);
    }

    private static void groundAtFirst() {
        sentence(2, "each of a KIND: 0 ground, 1 wall, 2 step, 3 puddle (at first 0)");
        OneEyeTwoLegs x = new OneEyeTwoLegs(5, 5);
        for (int p = 0; p < 25; p++) due("kind of " + p, x.about(10 + p), 0);
        for (int kind = 3; kind >= 0; kind--) {
            due("cell(0, " + kind + ")", x.cell(0, kind), true);
            due("its kind", x.about(10), kind);
        }
    }

    private static void kindsOfCells() {
        sentence(2, "KIND of a cell: true.");
        OneEyeTwoLegs x = town();
        int[] edges = {0, 5};
        for (int p : edges) {
            for (int kind = 0; kind <= 3; kind++) {
                due("cell(" + p + ", " + kind + ")", x.cell(p, kind), true);
                due("its kind", x.about(10 + p), kind);
                due("the other's", x.about(15 - p), p == 0 ? 0 : 3);
            }
        }
        due("the kind that it has", x.cell(5, 3), true);
    }

    private static void noKindsOfOthers() {
        sentence(2, "False for others");
        OneEyeTwoLegs x = town("");
        x.pair(0, 0);
        x.tap(0, 0);
        for (int p : OUTSIDE) due("cell(" + p + ", 2)", x.cell(p, 2), false);
        for (int kind : OUTSIDE) due("cell(0, " + kind + ")", x.cell(0, kind), false);
        due("cell(6, 2)", x.cell(6, 2), false);
        due("cell(0, 4)", x.cell(0, 4), false);
        for (int p = 0; p < 6; p++) due("kind of " + p, x.about(10 + p), 0);
        due("no step is forgotten", x.about(5), 1);
    }

    private static void noWallWhereAPairIs() {
        sentence(2, "(a wall where a PAIR is, too)");
        OneEyeTwoLegs x = town("");
        for (int pair = 0; pair < 6; pair++) x.pair(4 * pair + 1, 0);
        for (int p = 0; p < 6; p++) due("a wall in " + p, x.cell(p, 1), false);
        for (int p = 0; p < 6; p++) due("its kind", x.about(10 + p), 0);
        int[] open = {3, 2, 0};
        for (int kind : open) due("another kind where one is", x.cell(0, kind), true);
        x.tap(0, 0);
        due("where none is any more", x.cell(0, 1), true);
        due("where two are now", x.cell(1, 1), false);
        x.tap(1, 1);
        due("a wall where one is", x.cell(1, 1), false);
        due("no step is forgotten", x.about(5), 1);
    }

    private static void sixPairs() {
        sentence(3, "A PAIR at a POSE (no wall), by a HABIT: its number.");
        OneEyeTwoLegs x = town("", "", "", "");
        x.cell(1, 1);
        due("a wall", x.pair(4, 0), NONE);
        due("a wall, the last heading", x.pair(7, 0), NONE);
        sentence(3, "PAIRS 0 .. 5 (told one by one): a POSE, a HABIT.");
        int[][] all = {{0, 0}, {23, 3}, {3, 1}, {8, 2}, {8, 2}, {0, 3}};
        for (int k = 0; k < 6; k++) {
            due("pair " + k, x.pair(all[k][0], all[k][1]), k);
            due("its pose", x.of(k, 0), all[k][0]);
            due("its habit", x.of(k, 1), all[k][1]);
        }
        sentence(3, "NONE for others, or if there are 6.");
        due("a 7th", x.pair(0, 0), NONE);
        due("how many", x.about(2), 6);
        due("the last one stays", x.of(5, 0), 0);
    }

    private static void noPairsOfOthers() {
        sentence(3, "NONE for others, or if there are 6.");
        OneEyeTwoLegs x = new OneEyeTwoLegs(3, 2);
        due("no text yet", x.pair(0, 0), NONE);
        x.text();
        for (int o : OUTSIDE) {
            due("pair(" + o + ", 0)", x.pair(o, 0), NONE);
            due("pair(0, " + o + ")", x.pair(0, o), NONE);
        }
        due("a pose too many", x.pair(24, 0), NONE);
        due("a text too many", x.pair(0, 1), NONE);
        due("how many", x.about(2), 0);
        due("the last pose", x.pair(23, 0), 0);
    }

    private static void cellNumbers() {
        sentence(8, "W by H cells (p = x + W y)");
        int[][] sizes = {{5, 5}, {5, 2}, {2, 5}, {3, 4}};
        for (int[] size : sizes) {
            OneEyeTwoLegs x = town(size[0], size[1], "does if x=tap or x=tap+2?3:0 end;", "does if y=tap or y=tap+2?3:0 end;");
            for (int p = 0; p < size[0] * size[1]; p++) {
                for (int tap = 0; tap < 4; tap++) {
                    int there = p % size[0] - tap;
                    due("x of " + p, x.goes(0, 4 * p, tap), 4 * p + (there == 0 || there == 2 ? 1 : 0));
                    there = p / size[0] - tap;
                    due("y of " + p, x.goes(1, 4 * p, tap), 4 * p + (there == 0 || there == 2 ? 1 : 0));
                }
            }
        }
    }

    private static void fourHeadings() {
        sentence(8, "HEADINGS: 0 y less, 1 x more, 2 y more, 3 x less.");
        OneEyeTwoLegs x = town(3, 3, "does 1;");
        int[] ahead = {1, 5, 7, 3};
        for (int heading = 0; heading < 4; heading++) {
            due("heading " + heading, x.goes(0, 16 + heading, 0), 4 * ahead[heading] + heading);
        }
    }

    private static void noPoseInAWall() {
        sentence(8, "A POSE: 4 times the cell and the HEADING (one in a wall is none).");
        OneEyeTwoLegs x = town("");
        x.pair(0, 0);
        x.cell(4, 1);
        for (int pose = 16; pose < 20; pose++) {
            due("goes", x.goes(0, pose, 0), NONE);
            due("pair", x.pair(pose, 0), NONE);
            due("fewest", x.fewest(1, pose, 0, NONE), NONE);
            due("fewest, to where it is", x.fewest(1, pose, 4, NONE), NONE);
            due("tells", x.tells(0, 0, pose, NONE), NONE);
            due("odds", x.odds(0, pose, 0, 0, 1), NONE);
            due("seen from it", x.seen(pose, 0, 0), NONE);
            due("seen to it", x.seen(0, 0, pose), NONE);
            due("a catcher", x.chase(0, pose, 0, 0), NONE);
            due("a thief", x.chase(0, 0, 0, pose), NONE);
            due("both in it", x.chase(0, pose, 0, pose), NONE);
            due("hunt of a catcher", x.hunt(0, pose, 0, 0), NONE);
            due("hunt of a thief", x.hunt(0, 0, 0, pose), NONE);
        }
        due("the pose ahead of these", x.goes(0, 15, 3), 15);
        due("the pose behind these", x.goes(0, 20, 3), 20);
        due("how many pairs", x.about(2), 1);
        due("how many seen", x.about(6), 0);
    }

    private static void fourTaps() {
        sentence(8, "TAPS 0 .. 3");
        OneEyeTwoLegs x = town("does 3;");
        x.pair(0, 0);
        for (int tap = 0; tap < 4; tap++) due("goes at tap " + tap, x.goes(0, 0, tap), 1);
        int[] none = {MIN, -1, 4, 5, MAX};
        for (int tap : none) {
            due("goes at tap " + tap, x.goes(0, 0, tap), NONE);
            due("tap " + tap, x.tap(0, tap), NONE);
            due("seen at tap " + tap, x.seen(0, tap, 0), NONE);
        }
        due("no step", x.about(5), 0);
        due("no seen", x.about(6), 0);
    }

    private static void refusals() {
        sentence(8, "At a TAP: if fears is so, he REFUSES: nothing happens.");
        OneEyeTwoLegs x = town("fears tap=3;does tap+1;", "fears ahead=1;");
        due("he goes", x.goes(0, 1, 0), 5);
        due("he turns", x.goes(0, 1, 2), 2);
        due("he refuses to turn", x.goes(0, 1, 3), 401);
        due("he refuses to bump", x.goes(1, 0, 0), 400);
        due("he refuses to stay", x.goes(1, 0, 3), 400);
        due("he refuses in the last pose", x.goes(1, 21, 1), 421);
        x.pair(1, 0);
        due("a tap refused", x.tap(0, 3), 401);
        due("its pose", x.of(0, 0), 1);
    }

    private static void deedsWithinBounds() {
        sentence(8, "Else by does (0 at least, 4 at most");
        String[] sums = {"-1000*1000", "-1", "0", "1", "2", "3", "4", "5", "9999", "1000*1000"};
        int[] poses = {17, 17, 17, 21, 16, 18, 19, 19, 19, 19};
        for (int k = 0; k < sums.length; k++) {
            OneEyeTwoLegs x = town(3, 3, "does " + sums[k] + ";");
            due("does " + sums[k], x.goes(0, 17, 0), poses[k]);
        }
    }

    private static void withoutDoes() {
        sentence(8, "without: 1 at TAP 0, 2 at 1, 3 at 2, 0 at 3)");
        OneEyeTwoLegs x = town("", "fears 1=2;", "likes pace;");
        int[] poses = {5, 0, 2, 1};
        for (int text = 0; text < 3; text++) {
            for (int tap = 0; tap < 4; tap++) due("at tap " + tap, x.goes(text, 1, tap), poses[tap]);
        }
    }

    private static void bumps() {
        sentence(8, "goes on: into the cell ahead, or BUMPS (it is a wall, or none: he stays)");
        OneEyeTwoLegs x = town("does 1;");
        int[] then = {200, 5, 14, 203, 204, 9, 18, 3, 208, 209, 22, 7, 0, 17, 214, 215, 4, 21, 218, 15, 8, 221, 222, 19};
        for (int pose = 0; pose < 24; pose++) due("from " + pose, x.goes(0, pose, 0), then[pose]);
        x.cell(4, 1);
        int[] around = {6, 13, 23};
        for (int pose : around) due("into the wall from " + pose, x.goes(0, pose, 0), 200 + pose);
        for (int kind = 2; kind <= 3; kind++) {
            x.cell(4, kind);
            for (int pose : around) due("into kind " + kind, x.goes(0, pose, 0), 16 + pose % 4);
        }
        x.pair(6, 0);
        x.cell(4, 1);
        due("a tap", x.tap(0, 0), 206);
        due("he stays", x.of(0, 0), 6);
    }

    private static void turns() {
        sentence(8, "2 turns to the left (HEADING 3 more, by 4), 3 to the right, 4 about.");
        OneEyeTwoLegs x = town(5, 5, "does tap+1;");
        int[] cells = {0, 12, 24};
        for (int p : cells) {
            for (int heading = 0; heading < 4; heading++) {
                due("left of " + heading, x.goes(0, 4 * p + heading, 1), 4 * p + new int[] {3, 0, 1, 2}[heading]);
                due("right of " + heading, x.goes(0, 4 * p + heading, 2), 4 * p + new int[] {1, 2, 3, 0}[heading]);
                due("behind " + heading, x.goes(0, 4 * p + heading, 3), 4 * p + new int[] {2, 3, 0, 1}[heading]);
            }
        }
    }

    private static void answersOfGoes() {
        sentence(8, "the POSE then; 200 more, if he BUMPS; 400 more, if he REFUSES.");
        OneEyeTwoLegs x = town(5, 5, "", "fears heading=1;");
        due("the last pose stays", x.goes(0, 99, 3), 99);
        due("the first one stays", x.goes(0, 0, 3), 0);
        due("he bumps in the last cell", x.goes(0, 98, 0), 298);
        due("he bumps in the first cell", x.goes(0, 0, 0), 200);
        due("he refuses in the last cell", x.goes(1, 97, 0), 497);
        due("he refuses in the first cell", x.goes(1, 1, 0), 401);
        due("it changes nothing", x.about(5), 0);
    }

    private static void goesOfOthers() {
        sentence(8, "NONE for others.");
        OneEyeTwoLegs x = town();
        due("no text yet", x.goes(0, 0, 0), NONE);
        x.text();
        for (int o : OUTSIDE) {
            due("goes(" + o + ", 0, 0)", x.goes(o, 0, 0), NONE);
            due("goes(0, " + o + ", 0)", x.goes(0, o, 0), NONE);
            due("goes(0, 0, " + o + ")", x.goes(0, 0, o), NONE);
        }
        due("a text too many", x.goes(1, 0, 0), NONE);
        due("a pose too many", x.goes(0, 24, 0), NONE);
        due("a tap too many", x.goes(0, 0, 4), NONE);
    }

    private static void lookingAround() {
        sentence(8, "here (the KIND of his cell), ahead (of the cell ahead; 1 of none)");
        OneEyeTwoLegs x = town("does if here=tap?4:0 end;", "does if ahead=tap?4:0 end;");
        int[] kinds = {0, 2, 3, 0, 1, 2};
        for (int p = 0; p < 6; p++) x.cell(p, kinds[p]);
        // what is ahead of each pose, wall for none
        int[] ahead = {1, 2, 0, 1, 1, 3, 1, 0, 1, 1, 2, 2, 0, 1, 1, 1, -1, -1, -1, -1, 3, 1, 1, 1};
        for (int pose = 0; pose < 24; pose++) {
            if (pose / 4 == 4) continue;
            for (int tap = 0; tap < 4; tap++) {
                int about = pose / 4 * 4 + (pose + 2) % 4;
                due("here of " + pose, x.goes(0, pose, tap), kinds[pose / 4] == tap ? about : pose);
                due("ahead of " + pose, x.goes(1, pose, tap), ahead[pose] == tap ? about : pose);
            }
        }
    }

    private static void aboutNothing() {
        sentence(28, "0 W, 1 H, 2 PAIRS, 3 TEXTS, 4 TAPS of THE ROW, 5 STEPS that can be taken back, 6 SEEN, 7 RIDERS, 8 CARRIERS, 9 bytes of the tape");
        OneEyeTwoLegs x = new OneEyeTwoLegs(2, 5);
        int[] empty = {2, 5, 0, 0, 0, 0, 0, 0, 0, 0};
        for (int what = 0; what < 10; what++) due("about(" + what + ") of none", x.about(what), empty[what]);
        int[] full = {2, 5, 6, 4, 16, 30, 20, 6, 6, 300};
        for (int k = 0; k < 5; k++) x.text();
        for (int k = 0; k < 7; k++) x.pair(0, 0);
        for (int k = 0; k < 17; k++) x.row(1);
        for (int k = 0; k < 31; k++) x.tap(0, 1);
        for (int k = 0; k < 21; k++) x.seen(0, 0, 0);
        for (int k = 0; k < 7; k++) x.rider(k);
        for (int k = 0; k < 7; k++) x.carrier(k);
        for (int k = 0; k < 16; k++) x.feed(k, k, k, k, k);
        for (int what = 0; what < 10; what++) due("about(" + what + ") of all", x.about(what), full[what]);
    }

    private static void aboutCells() {
        sentence(28, "10 + p: KIND of a cell.");
        OneEyeTwoLegs x = new OneEyeTwoLegs(5, 5);
        for (int p = 0; p < 25; p++) x.cell(p, (p + 3) % 4);
        for (int p = 0; p < 25; p++) due("about(10 + " + p + ")", x.about(10 + p), (p + 3) % 4);
    }

    private static void aboutOthers() {
        sentence(28, "-2 for others.");
        int[][] sizes = {{2, 2}, {5, 5}, {3, 4}};
        for (int[] size : sizes) {
            OneEyeTwoLegs x = new OneEyeTwoLegs(size[0], size[1]);
            int first = 10 + size[0] * size[1];
            due("the last cell", x.about(first - 1), 0);
            int[] others = {first, first + 1, -1, -2, -10, MIN, MIN + 9, MIN + 10, MAX, MAX - 1};
            for (int o : others) due("about(" + o + ")", x.about(o), -2);
        }
    }

    public static void main(String[] args) {
        nearestSizes();
        firstImage();
        fiveHundredAndTwelveCalls();
        constants();
        groundAtFirst();
        kindsOfCells();
        noKindsOfOthers();
        noWallWhereAPairIs();
        sixPairs();
        noPairsOfOthers();
        cellNumbers();
        fourHeadings();
        noPoseInAWall();
        fourTaps();
        refusals();
        deedsWithinBounds();
        withoutDoes();
        bumps();
        turns();
        answersOfGoes();
        goesOfOthers();
        lookingAround();
        aboutNothing();
        aboutCells();
        aboutOthers();
        endOf("TownBoundsTest");
    }
}
