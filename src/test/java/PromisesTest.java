/** Each promise of the document by hand: ordinary inputs, edges and wrong inputs. */
public final class PromisesTest extends Calls {
    // Turns to the other side than a carrier without any clause.
    private static final String MIRRORED = "does if tap=1?3:if tap=2?2:if tap=0?1:0 end end end;";

    private static void newObject() {
        int[][] sizes = {{3, 4, 3, 4}, {2, 5, 2, 5}, {1, 6, 2, 5}, {MIN, MAX, 2, 5}, {0, -1, 2, 2}};
        for (int[] s : sizes) {
            OneEyeTwoLegs x = new OneEyeTwoLegs(s[0], s[1]);
            due(1, "W of " + s[0], x.about(0), s[2]);
            due(1, "H of " + s[1], x.about(1), s[3]);
            for (int k = 2; k < 10 + s[2] * s[3]; k++) due(1, "about(" + k + ")", x.about(k), 0);
            due(1, "a cell too many", x.about(10 + s[2] * s[3]), -2);
        }
        OneEyeTwoLegs x = new OneEyeTwoLegs(3, 2);
        read(x, "");
        x.pair(0, 0);
        x.cell(4, 2);
        x.row(1);
        x.rider(1);
        x.carrier(1);
        x.seen(0, 0, 0);
        x.tap(0, 1);
        due(1, "back to the first image", x.back(), 0);
        for (int k = 2; k < 16; k++) due(1, "about(" + k + ") then", x.about(k), 0);
    }

    private static void cells() {
        OneEyeTwoLegs x = new OneEyeTwoLegs(3, 2);
        for (int kind = 0; kind < 4; kind++) {
            due(2, "cell(5, kind)", x.cell(5, kind), true);
            due(2, "its kind", x.about(15), kind);
        }
        int[][] others = {{-1, 0}, {6, 0}, {0, -1}, {0, 4}, {MIN, 0}, {MAX, 0}, {0, MIN}, {0, MAX}};
        for (int[] o : others) due(2, "cell(" + o[0] + ", " + o[1] + ")", x.cell(o[0], o[1]), false);
        read(x, "");
        x.pair(1, 0);
        x.tap(0, 0);
        due(2, "a wall where a pair is", x.cell(1, 1), false);
        due(2, "and nothing is forgotten", x.about(5), 1);
        due(2, "its kind", x.about(11), 0);
        due(2, "a puddle where a pair is", x.cell(1, 3), true);
        due(2, "it forgets the steps", x.about(5), 0);
        due(2, "nothing to undo", x.undo(), NONE);
        x.tap(0, 1);
        due(2, "a wall where it was", x.cell(0, 1), true);
        x.tap(0, 1);
        due(2, "the kind that it has", x.cell(2, 0), true);
        due(2, "forgets, too", x.about(5), 0);
    }

    private static void pairs() {
        OneEyeTwoLegs x = new OneEyeTwoLegs(3, 2);
        due(3, "no text", x.pair(0, 0), NONE);
        read(x, "");
        x.cell(5, 1);
        int[][] others = {{-1, 0}, {24, 0}, {20, 0}, {23, 0}, {0, 1}, {0, -1}, {MIN, 0}, {MAX, 0}, {0, MIN}, {0, MAX}};
        for (int[] o : others) due(3, "pair(" + o[0] + ", " + o[1] + ")", x.pair(o[0], o[1]), NONE);
        for (int k = 0; k < 6; k++) due(3, "pair " + k, x.pair(19 - k / 2, 0), k);
        due(3, "a 7th", x.pair(0, 0), NONE);
        due(3, "how many", x.about(2), 6);
    }

    private static void tape() {
        OneEyeTwoLegs x = new OneEyeTwoLegs(2, 2);
        for (int k = 1; k <= 15; k++) due(4, "feed " + k, x.feed(-1, 0, 1, 2, 3), 20 * k);
        due(4, "feed 16", x.feed(0, 0, 0, 0, 0), NONE);
        due(4, "bytes", x.about(9), 300);
        due(5, "end(301)", x.end(301), NONE);
        due(5, "end(-1)", x.end(-1), NONE);
        due(5, "end(MIN)", x.end(MIN), NONE);
        due(5, "end(300)", x.end(300), 300);
        due(5, "end(281)", x.end(281), 281);
        due(4, "20 more are too many", x.feed(0, 0, 0, 0, 0), NONE);
        due(5, "bytes", x.about(9), 281);
        due(5, "end(280)", x.end(280), 280);
        due(4, "20 more", x.feed(0, 0, 0, 0, 0), 300);
        due(5, "end(0)", x.end(0), 0);
        due(5, "end(1)", x.end(1), NONE);
        // "does", " 3; ", blanks; its bytes must come highest first
        due(4, "feed", x.feed(0x646f6573, 0x20333b20, 0x20202020, 0x0a0a0a0a, 0x20202020), 20);
        due(6, "text()", x.text(), 0);
        due(4, "goes(0, 0, 0)", x.goes(0, 0, 0), 1);
    }

    private static void texts() {
        OneEyeTwoLegs x = new OneEyeTwoLegs(2, 2);
        due(6, "a fault", read(x, "does x"), NONE);
        due(6, "the tape is empty then", x.about(9), 0);
        due(6, "no text came", x.about(3), 0);
        for (int k = 0; k < 4; k++) {
            due(6, "text " + k, read(x, "does " + k + ";"), k);
            due(6, "the tape is empty then", x.about(9), 0);
        }
        due(6, "a 5th", read(x, "wrong!"), NONE);
        due(6, "the tape stays", x.about(9), 6);
        due(7, "it was not read", x.fault(0), 0);
        due(7, "it was not read", x.fault(1), NONE);
        due(6, "how many", x.about(3), 4);
        x.back();
        due(6, "the tape stayed", x.text(), NONE);
        due(7, "its fault", x.fault(0), 1);
        due(7, "its place", x.fault(1), 0);
        due(6, "300 bytes", read(x, "does 0" + repeat(" ", 293) + ";"), 0);
    }

    private static void faultOf(String text, int fault, int place) {
        OneEyeTwoLegs x = new OneEyeTwoLegs(2, 2);
        due(7, "text of \"" + text + "\"", read(x, text), fault == 0 ? 0 : NONE);
        due(7, "fault of \"" + text + "\"", x.fault(0), fault);
        due(7, "place of \"" + text + "\"", x.fault(1), place);
    }

    private static void faults() {
        OneEyeTwoLegs x = new OneEyeTwoLegs(2, 2);
        due(7, "ahead of any", x.fault(0), NONE);
        due(7, "ahead of any", x.fault(1), NONE);
        read(x, "does");
        int[] others = {-1, 2, MIN, MAX};
        for (int o : others) due(7, "fault(" + o + ")", x.fault(o), NONE);
        due(7, "the end", x.fault(1), 4);
        x.back();
        due(7, "no image has it", x.fault(0), 1);
        String[] right = {"", " \n", "does 1;", "fears 1=1;", "likes asks;", "likes 1;fears x<=y;does 2;",
            "does-(-tap*2/x+y-here)-ahead;", "does if not 1#2 and x>=y or heading>1?1:2end;", "does 0009999;",
            "does((((((((1))))))));", "does--------1;", "fears not not not not not not not not 1=1;",
            "does " + repeat("if 1=1?", 8) + "1" + repeat(":2 end", 8) + ";",
            "does (1)+(1)+(1)+(1)+(1)+(1)+(1)+(1)+(1)+(1);", "does 1----------1;".replace("----------", "---------"),
            "fears not 1=1 and not 1=1 and not 1=1 and not 1=1 and not 1=1 and not 1=1 and not 1=1 and not 1=1 and not 1=1;",
            "does 11" + repeat("+1", 145) + "+2;", "does " + repeat("(", 8) + "x" + repeat(")", 8) + repeat("-x", 138) + ";",
            "likes rider+carrier+sight+pace;", "does\n1\n;\n", "does 1;fears 1=1;likes 1;"};
        for (String text : right) faultOf(text, 0, NONE);
        Object[][] faulty = {
            {"goes 1;", 1, 0}, {"does", 1, 4}, {"does ", 1, 5}, {"does 1", 1, 6}, {"does 1 ", 1, 7}, {"does ;", 1, 5},
            {"does 1;;", 1, 7}, {"Does 1;", 1, 0}, {"does Tap;", 1, 5}, {"does tapx;", 1, 5},
            {"does tapz;", 1, 5}, {"does tapa;", 1, 5}, {"does tapA;", 1, 5}, {"does tapZ;", 1, 5}, {"does tap`;", 1, 8}, {"does tap{;", 1, 8},
            {"does tap@;", 1, 8}, {"does tap[;", 1, 8}, {"does 1/;", 1, 7}, {"does 1a", 1, 6}, {"does foo;", 1, 5},
            {"does 1 2;", 1, 7}, {"does 1x;", 1, 6}, {"does 1!;", 1, 6}, {"does 1\t;", 1, 6}, {"does 1;\u0000", 1, 7},
            {"does (1;", 1, 7}, {"does 1);", 1, 6}, {"does 1<2;", 1, 6}, {"fears 1;", 1, 7}, {"fears 1<2<3;", 1, 9},
            {"fears (1<2);", 1, 8}, {"fears 1<>2;", 1, 8}, {"fears 1=<2;", 1, 8}, {"fears 1==2;", 1, 8},
            {"fears 1<2 or;", 1, 12}, {"fears and 1<2;", 1, 6}, {"does not 1=1;", 1, 5}, {"does 1+;", 1, 7},
            {"does *1;", 1, 5}, {"does +1;", 1, 5}, {"does if 1=1?1:2;", 1, 15}, {"does if 1=1?1 end;", 1, 14},
            {"does if 1?1:2 end;", 1, 9}, {"does end;", 1, 5}, {"does does;", 1, 5}, {"1", 1, 0}, {";", 1, 0}, {"tap;", 1, 0},
            {"does 10000;", 2, 5}, {"does 0010000;", 2, 5}, {"does 99999999999999999999999;", 2, 5},
            {"does 4294967296;", 2, 5}, {"does 1 10000;", 1, 7}, {"10000;", 1, 0},
            {"does(((((((((1", 3, 12}, {"does ---------1;", 3, 13}, {"fears " + repeat("not ", 9) + "1=1;", 3, 38},
            {"does " + repeat("if 1=1?", 9) + "1", 3, 61}, {"does (-(-(-(-(1", 3, 13}, {"fears not not not not((((1))))=-1+(((((1", 3, 38},
            {"does 1(((((((((1", 1, 6}, {"does 1;does 1;", 4, 7}, {"does 1; fears 1=1;does", 4, 18}, {"likes 1;likes", 4, 8},
            {"fears 1=1;fears x", 4, 10}, {"does rider;", 5, 5}, {"fears asks=0;", 5, 6}, {"likes tap;", 5, 6}, {"likes 1+x;", 5, 8},
            {"does 1;likes ahead;", 5, 13}, {"likes 1 tap;", 1, 8}, {"does carrier 10000;", 5, 5}, {"does 10000 carrier;", 2, 5}};
        for (Object[] f : faulty) faultOf((String) f[0], (Integer) f[1], (Integer) f[2]);
    }

    /** What a does of this sum makes of pose 1 at tap 0 in a town of 3 by 2. */
    private static int deed(String sum) {
        OneEyeTwoLegs x = new OneEyeTwoLegs(3, 2);
        due(8, "text does " + sum, read(x, "does " + sum + ";"), 0);
        return x.goes(0, 1, 0);
    }

    private static void sums() {
        due(8, "below 0 he stays", deed("-9999"), 1);
        due(8, "0 he stays", deed("0"), 1);
        due(8, "1 he goes on", deed("1"), 5);
        due(8, "2 he turns to the left", deed("2"), 0);
        due(8, "3 to the right", deed("3"), 2);
        due(8, "4 about", deed("4"), 3);
        due(8, "above 4 about", deed("9999*9999"), 3);
        due(8, "300 bytes", deed("1" + repeat("-1+1", 72) + "-1+3"), 2);
        due(8, "many ifs", deed(repeat("if 1=1?", 8) + "3" + repeat(":0 end", 8) + repeat("+0", 94)), 2);
        due(8, "what waits is not lost", deed(repeat("if 1=2 or 1=1 and 1=1+1*", 8) + "1" + repeat("?1:0 end", 8)), 5);
        String[] so = {"7/2=3", "-7/2=-3", "7/-2=-3", "5/0=0", "0/0=0", "9999*9999-1=1000*1000-1",
            "-9999*9999+1=-(1000*1000-1)", "1000*1000+1=1000*1000", "-1000*1000-1=0-1000*1000", "9999*9999/1000=1000",
            "10-3-2=5", "100/10/5=2", "2+3*4=14", "(2+3)*4=20", "2*-3=-6", "- -3=3", "1<2", "2<=2", "3>2", "2>=2", "1#2",
            "not 1=2", "not not 1=1", "1=1 or 1=2 and 1=2", "1=2 and 1=1 or 1=1", "not 1=2 and 1=1",
            "if 1=2?1:3 end=3", "if 1=1?if 1=2?5:6 end:7 end*2=12", "tap=0", "heading=1", "x=0", "y=0", "here=0", "ahead=0",
            "100*100*100*100/1000=1000"};
        for (String ask : so) due(8, "if " + ask, deed("if " + ask + "?1:2 end"), 5);
        String[] notSo = {"1=2", "2<2", "3<=2", "2>2", "1>=2", "1#1", "not 1=1", "1=1 and 1=2", "1=2 or 1=3", "1<-1"};
        for (String ask : notSo) due(8, "if " + ask, deed("if " + ask + "?1:2 end"), 0);
    }

    private static void goings() {
        OneEyeTwoLegs x = new OneEyeTwoLegs(3, 2);
        read(x, "");
        int[] ahead = {200, 5, 14, 203, 204, 9, 18, 3, 208, 209, 22, 7, 0, 17, 214, 215, 4, 21, 218, 15, 8, 221, 222, 19};
        int[] left = {3, 0, 1, 2};
        for (int pose = 0; pose < 24; pose++) {
            due(8, "goes(0, " + pose + ", 0)", x.goes(0, pose, 0), pose == 12 ? 0 : ahead[pose]);
            due(8, "goes(0, " + pose + ", 1)", x.goes(0, pose, 1), pose / 4 * 4 + left[pose % 4]);
            due(8, "goes(0, " + pose + ", 2)", x.goes(0, pose, 2), pose / 4 * 4 + (pose + 1) % 4);
            due(8, "goes(0, " + pose + ", 3)", x.goes(0, pose, 3), pose);
        }
        int[][] others = {{1, 0, 0}, {-1, 0, 0}, {0, -1, 0}, {0, 24, 0}, {0, 0, -1}, {0, 0, 4}, {MIN, MIN, MIN}, {MAX, MAX, MAX}};
        for (int[] o : others) due(8, "goes of others", x.goes(o[0], o[1], o[2]), NONE);
        x.cell(1, 1);
        due(8, "a wall ahead", x.goes(0, 1, 0), 201);
        due(8, "in a wall", x.goes(0, 5, 0), NONE);
        x.cell(1, 2);
        x.cell(3, 3);
        due(8, "a step ahead", x.goes(0, 1, 0), 5);
        read(x, "fears ahead=1;");
        read(x, "fears here=3 or ahead=2;does 3;");
        due(8, "he fears the edge", x.goes(1, 0, 0), 400);
        due(8, "he fears it at each tap", x.goes(1, 0, 3), 400);
        due(8, "he doesn't fear the step", x.goes(1, 1, 0), 5);
        due(8, "he fears the step", x.goes(2, 1, 0), 401);
        due(8, "he fears his puddle", x.goes(2, 13, 1), 413);
        due(8, "he fears nothing", x.goes(2, 9, 1), 10);
        read(x, "does if x=2 and y=1?2:if heading=3?4:if tap=3?1:0 end end end;");
        due(8, "by x and y", x.goes(3, 20, 0), 23);
        due(8, "by heading", x.goes(3, 3, 0), 1);
        due(8, "by tap", x.goes(3, 1, 3), 5);
        due(8, "by none", x.goes(3, 1, 2), 1);
    }

    private static void steps() {
        OneEyeTwoLegs x = new OneEyeTwoLegs(3, 2);
        read(x, "");
        read(x, "fears tap=2;");
        x.pair(1, 0);
        x.pair(1, 1);
        due(9, "tap", x.tap(0, 0), 5);
        due(9, "where it is", x.of(0, 0), 5);
        due(9, "the other stays", x.of(1, 0), 1);
        due(9, "pairs don't hinder one another", x.tap(1, 0), 5);
        due(9, "it refuses", x.tap(1, 2), 405);
        due(9, "a refusal is a step, too", x.about(5), 3);
        x.tap(0, 0);
        due(9, "it bumps", x.tap(0, 0), 209);
        due(9, "where it is", x.of(0, 0), 9);
        due(9, "steps", x.about(5), 5);
        int[][] others = {{-1, 0}, {2, 0}, {0, -1}, {0, 4}, {MIN, 0}, {MAX, 0}, {0, MIN}, {0, MAX}};
        for (int[] o : others) due(9, "tap of others", x.tap(o[0], o[1]), NONE);
        due(9, "these are no steps", x.about(5), 5);
        int[] pairs = {0, 0, 1, 1, 0};
        int[] poses = {9, 5, 5, 1, 1};
        for (int k = 0; k < 5; k++) {
            due(12, "undo " + k, x.undo(), pairs[k]);
            due(12, "its pose", x.of(pairs[k], 0), poses[k]);
        }
        due(12, "undo of none", x.undo(), NONE);
        for (int k = 0; k < 31; k++) x.tap(k % 2, 1);
        due(12, "30 at most", x.about(5), 30);
        for (int k = 0; k < 30; k++) due(12, "undo", x.undo(), k % 2);
        due(12, "the 31st is gone", x.undo(), NONE);
        due(12, "the first tap stays", x.of(0, 0), 0);
        due(12, "all of the other's are back", x.of(1, 0), 1);
    }

    private static void walks() {
        OneEyeTwoLegs x = new OneEyeTwoLegs(3, 2);
        read(x, "");
        read(x, "fears tap=2;");
        x.pair(1, 0);
        x.pair(1, 1);
        due(11, "an empty row", x.walk(0), 0);
        due(11, "is a step, too", x.about(5), 1);
        for (int k = 1; k <= 16; k++) due(10, "row", x.row(k % 4), k);
        due(10, "a 17th", x.row(0), NONE);
        due(10, "a 17th that is none", x.row(4), NONE);
        due(10, "how many", x.about(4), 16);
        due(10, "empty", x.row(NONE), 0);
        due(10, "how many", x.about(4), 0);
        int[] others = {4, -2, MIN, MAX};
        for (int o : others) due(10, "row(" + o + ")", x.row(o), NONE);
        row(x, 0, 0, 0, 2, 0, 0);
        due(11, "it bumps twice", x.walk(0), 2);
        due(11, "where it is", x.of(0, 0), 22);
        due(11, "it refuses to turn", x.walk(1), 3);
        due(11, "where it is", x.of(1, 0), 9);
        int[] wrongs = {-1, 2, MIN, MAX};
        for (int o : wrongs) due(11, "walk(" + o + ")", x.walk(o), NONE);
        due(11, "steps", x.about(5), 3);
        due(12, "a walk is one step", x.undo(), 1);
        due(12, "its pose", x.of(1, 0), 1);
        due(12, "undo", x.undo(), 0);
        due(12, "its pose", x.of(0, 0), 1);
        due(13, "its habit", x.of(1, 1), 1);
        int[][] none = {{-1, 0}, {2, 0}, {0, 2}, {0, -1}, {MIN, 0}, {MAX, 1}, {0, MAX}, {0, MIN}};
        for (int[] o : none) due(13, "of others", x.of(o[0], o[1]), NONE);
    }

    private static void fewestTaps() {
        OneEyeTwoLegs x = new OneEyeTwoLegs(5, 5);
        read(x, "");
        read(x, MIRRORED);
        read(x, "does tap;");
        due(14, "it is there", x.fewest(1, 0, 0, NONE), 0);
        due(14, "no first of none", x.fewest(1, 0, 0, 0), NONE);
        due(14, "it needs a turn", x.fewest(1, 0, 1, NONE), 2);
        due(14, "its first", x.fewest(1, 0, 1, 0), 2);
        due(14, "its second", x.fewest(1, 0, 1, 1), 0);
        due(14, "no third", x.fewest(1, 0, 1, 2), NONE);
        due(14, "behind him", x.fewest(1, 8, 7, NONE), 3);
        // of left-left and right-right the lower is left-left
        due(14, "the lowest first", x.fewest(1, 8, 7, 0), 1);
        due(14, "the same by another", x.fewest(4, 8, 7, 0), 2);
        due(14, "both go on", x.fewest(3, 9, 4, NONE), 2);
        due(14, "a turn about for both", x.fewest(3, 49, 11, NONE), 3);
        due(14, "all three are there", x.fewest(7, 49, 12, NONE), 0);
        int[][] others = {{0, 0, 0, NONE}, {8, 0, 0, NONE}, {-1, 0, 0, NONE}, {1, -1, 0, NONE}, {1, 100, 0, NONE}, {1, 0, -1, NONE},
            {1, 0, 25, NONE}, {1, 0, 1, -2}, {1, 0, 1, MIN}, {1, 0, 1, MAX}, {MIN, 0, 0, NONE}, {MAX, 0, 0, NONE}, {1, MAX, 0, NONE}, {1, 0, MIN, NONE}};
        for (int[] o : others) due(14, "fewest of others " + o[0] + " " + o[1], x.fewest(o[0], o[1], o[2], o[3]), NONE);
        read(x, "does if tap=3?1:0 end;");
        due(14, "four texts are too many", x.fewest(15, 0, 0, NONE), NONE);
        due(14, "the fourth alone", x.fewest(8, 49, 14, 1), 3);
        due(14, "he can't turn", x.fewest(8, 49, 11, NONE), NONE);
        due(14, "too many rows of poses", x.fewest(13, 48, 0, NONE), SPENT);
        due(14, "too many for a tap, too", x.fewest(13, 48, 0, 0), SPENT);
        due(14, "found ahead of that", x.fewest(13, 48, 2, NONE), 6);
        due(14, "no such tap, however many rows", x.fewest(13, 48, 0, -2), NONE);
        x.cell(24, 1);
        due(14, "to a wall", x.fewest(1, 0, 24, NONE), NONE);
        due(14, "to a wall by many", x.fewest(13, 48, 24, NONE), SPENT);
        due(14, "from a wall", x.fewest(1, 96, 24, NONE), NONE);
    }

    private static void tellingApart() {
        OneEyeTwoLegs x = new OneEyeTwoLegs(3, 3);
        read(x, "");
        read(x, "does if x=2 and y=2 and tap=3?4:if tap=3?0:tap+1 end end;");
        read(x, "fears ahead=1 and tap=0;");
        read(x, MIRRORED);
        due(15, "unlike in a corner alone", x.tells(0, 1, 1, NONE), 6);
        int[] taps = {0, 0, 2, 0, 0, 3};
        for (int k = 0; k < 6; k++) due(15, "tap " + k, x.tells(0, 1, 1, k), taps[k]);
        due(15, "no 7th", x.tells(0, 1, 1, 6), NONE);
        due(15, "a refusal is where a bump is", x.tells(0, 2, 1, NONE), NONE);
        due(15, "like himself", x.tells(3, 3, 1, NONE), NONE);
        due(15, "mirrored", x.tells(3, 0, 1, NONE), 1);
        due(15, "by a turn", x.tells(3, 0, 1, 0), 1);
        int[][] others = {{-1, 0, 0, NONE}, {4, 0, 0, NONE}, {3, 4, 0, NONE}, {3, -1, 0, NONE}, {3, 0, -1, NONE}, {3, 0, 36, NONE},
            {3, 0, 1, -2}, {3, 0, 1, 1}, {3, 0, 1, MIN}, {3, 0, 1, MAX}, {MIN, 0, 0, NONE}, {MAX, 0, 0, NONE}};
        for (int[] o : others) due(15, "tells of others", x.tells(o[0], o[1], o[2], o[3]), NONE);
        x.cell(0, 1);
        due(15, "from a wall", x.tells(3, 0, 1, NONE), NONE);
    }

    private static void oddsDue(OneEyeTwoLegs x, int[] call, long upper, long lower) {
        due(16, "upper of " + call[2] + " by " + call[3], x.odds(call[0], call[1], call[2], call[3], 0), upper);
        due(16, "lower of " + call[2] + " by " + call[3], x.odds(call[0], call[1], call[2], call[3], 1), lower);
    }

    private static void oddsOfRows() {
        OneEyeTwoLegs x = new OneEyeTwoLegs(3, 2);
        read(x, "");
        read(x, "does if tap=0?1:0 end;");
        oddsDue(x, new int[] {0, 1, 0, 3}, 1, 1);
        oddsDue(x, new int[] {0, 1, 1, 3}, 0, 1);
        row(x, 0);
        oddsDue(x, new int[] {0, 1, 1, 0}, 1, 1);
        oddsDue(x, new int[] {0, 1, 1, 3}, 7, 10);
        oddsDue(x, new int[] {0, 1, 0, 3}, 3, 10);
        oddsDue(x, new int[] {0, 1, 1, 4}, 3, 5);
        oddsDue(x, new int[] {0, 1, 1, 10}, 0, 1);
        row(x, 3, 3);
        // 3 misheard is 0
        oddsDue(x, new int[] {1, 1, 0, 1}, 81, 100);
        oddsDue(x, new int[] {1, 1, 1, 1}, 9, 50);
        oddsDue(x, new int[] {1, 1, 2, 1}, 1, 100);
        row(x, 0, 0, 0, 0, 0, 0, 0, 0, 0, 0, 0, 0);
        // he isn't at cell 2 if 11 or 12 of 12 were misheard
        oddsDue(x, new int[] {1, 1, 2, 9}, 1000000000000L - 282429536481L - 12 * 31381059609L, 1000000000000L);
        oddsDue(x, new int[] {1, 1, 1, 9}, 12 * 31381059609L / 4, 1000000000000L / 4);
        int[][] others = {{-1, 1, 0, 0, 0}, {2, 1, 0, 0, 0}, {1, -1, 0, 0, 0}, {1, 24, 0, 0, 0}, {1, 1, -1, 0, 0}, {1, 1, 6, 0, 0},
            {1, 1, 0, -1, 0}, {1, 1, 0, 11, 0}, {1, 1, 0, 0, -1}, {1, 1, 0, 0, 2}, {MAX, 1, 0, 0, 0}, {1, MIN, 0, 0, 0}};
        for (int[] o : others) due(16, "odds of others", x.odds(o[0], o[1], o[2], o[3], o[4]), NONE);
        x.cell(5, 1);
        oddsDue(x, new int[] {1, 1, 5, 5}, 0, 1);
        due(16, "from a wall", x.odds(1, 20, 5, 5, 0), NONE);
        x.row(0);
        due(16, "a row of 13", x.odds(1, 1, 2, 9, 0), NONE);
    }

    private static void seenWalks() {
        OneEyeTwoLegs x = new OneEyeTwoLegs(3, 2);
        due(18, "no texts", x.holds(), 0);
        read(x, "");
        read(x, MIRRORED);
        read(x, "fears ahead=1;");
        due(18, "nothing seen", x.holds(), 7);
        due(17, "seen", x.seen(0, 0, 0), 1);
        due(18, "a refusal looks as a bump", x.holds(), 7);
        due(17, "seen", x.seen(0, 2, 1), 2);
        due(18, "the plain one turns there", x.holds(), 1);
        due(17, "seen", x.seen(1, 0, 9), 3);
        due(18, "nobody leaps", x.holds(), 0);
        int[][] others = {{-1, 0, 0}, {24, 0, 0}, {0, -1, 0}, {0, 4, 0}, {0, 0, -1}, {0, 0, 24}, {MIN, 0, 0}, {0, MAX, 0}, {0, 0, MAX}};
        for (int[] o : others) due(17, "seen of others", x.seen(o[0], o[1], o[2]), NONE);
        x.cell(5, 1);
        due(17, "from a wall", x.seen(20, 3, 20), NONE);
        due(17, "into a wall", x.seen(9, 3, 20), NONE);
        for (int k = 4; k <= 20; k++) due(17, "seen", x.seen(1, 3, 1), k);
        due(17, "a 21st", x.seen(1, 3, 1), NONE);
        due(17, "how many", x.about(6), 20);
        x.back();
        read(x, "does 0;");
        x.seen(5, 0, 5);
        due(18, "it holds", x.holds(), 1);
        x.cell(1, 1);
        due(18, "its pose is in a wall now", x.holds(), 0);
        x.cell(1, 0);
        due(18, "it was", x.holds(), 1);
    }

    private static void inTheDark() {
        OneEyeTwoLegs x = new OneEyeTwoLegs(3, 2);
        read(x, "");
        read(x, "fears ahead=1;");
        due(19, "no row", x.dark(0, 0, NONE), 24);
        row(x, 0, 0);
        // along x: 4 poses of each way; two steps bump at the second from the middle, at both from the end
        due(19, "no bump", x.dark(0, 0, NONE), 4);
        int[] free = {1, 11, 13, 23};
        for (int k = 0; k < 4; k++) due(19, "pose " + k, x.dark(0, 0, k), free[k]);
        due(19, "no 5th", x.dark(0, 0, 4), NONE);
        due(19, "bumps at the second", x.dark(0, 2, NONE), 10);
        due(19, "the first of these", x.dark(0, 2, 0), 2);
        due(19, "bumps at both", x.dark(0, 3, NONE), 10);
        due(19, "at the first alone", x.dark(0, 1, NONE), 0);
        due(19, "none such", x.dark(0, 1, 0), NONE);
        due(19, "he refuses to bump", x.dark(1, 0, NONE), 24);
        x.cell(4, 1);
        due(19, "not in walls", x.dark(1, 0, NONE), 20);
        int[][] others = {{-1, 0, NONE}, {2, 0, NONE}, {0, 0, -2}, {0, 4, NONE}, {0, -1, NONE}, {0, 0, MAX}, {0, 0, MIN}, {MAX, 0, NONE}};
        for (int[] o : others) due(19, "dark of others", x.dark(o[0], o[1], o[2]), NONE);
        row(x, 0, 0, 0, 0, 0, 0, 0, 0, 0, 0, 0, 0, 0, 0, 0, 0);
        x.cell(4, 0);
        due(19, "all sixteen", x.dark(0, 0xffff, NONE), 10);
    }

    private static void weddings() {
        OneEyeTwoLegs x = new OneEyeTwoLegs(2, 2);
        read(x, "");
        due(22, "no rider", x.wed(0, 0, 0), NONE);
        int[] others = {-1, 10, MIN, MAX};
        for (int o : others) {
            due(20, "rider(" + o + ")", x.rider(o), NONE);
            due(21, "carrier(" + o + ")", x.carrier(o), NONE);
        }
        due(20, "rider", x.rider(0), 1);
        due(22, "no carrier", x.wed(0, 0, 0), NONE);
        due(20, "rider", x.rider(9), 2);
        due(21, "carrier", x.carrier(9), 1);
        due(22, "the lowest rider", x.wed(0, 0, 0), 0);
        due(22, "the other has nobody", x.wed(0, 0, 1), NONE);
        due(22, "he asks the lowest", x.wed(0, 1, 0), 0);
        due(21, "carrier", x.carrier(0), 2);
        // riders like their own number, carriers the other one
        read(x, "likes if asks=0?if rider=carrier?1:0 end:if rider=carrier?0:1 end end;");
        for (int r = 0; r < 2; r++) {
            due(22, "riders ask", x.wed(1, 0, r), r);
            due(22, "carriers ask", x.wed(1, 1, r), 1 - r);
        }
        read(x, "likes -(pace-sight)*(pace-sight);");
        due(22, "like to like", x.wed(2, 0, 0), 1);
        due(22, "like to like", x.wed(2, 1, 1), 0);
        likedAlike();
        int[][] wrongs = {{-1, 0, 0}, {3, 0, 0}, {0, -1, 0}, {0, 2, 0}, {0, 0, -1}, {0, 0, 2}, {MAX, 0, 0}, {0, MIN, 0}, {0, 0, MAX}};
        for (int[] o : wrongs) due(22, "wed of others", x.wed(o[0], o[1], o[2]), NONE);
        for (int k = 3; k <= 6; k++) {
            due(20, "rider", x.rider(k), k);
            due(21, "carrier", x.carrier(k), k);
        }
        due(20, "a 7th", x.rider(0), NONE);
        due(21, "a 7th", x.carrier(0), NONE);
        due(20, "how many", x.about(7), 6);
        due(21, "how many", x.about(8), 6);
        for (int r = 0; r < 6; r++) due(22, "number to number", x.wed(0, r % 2, r), r);
        // all riders like the carriers by pace: 9, 6, 5, 4, 3, 0; carriers the riders by sight
        read(x, "likes if asks=0?pace:sight end;");
        int[] has = {1, 0, 2, 3, 4, 5};
        for (int r = 0; r < 6; r++) {
            due(22, "the best get the best", x.wed(3, 0, r), has[r]);
            due(22, "the best get the best", x.wed(3, 1, r), has[r]);
        }
    }

    private static void likedAlike() {
        OneEyeTwoLegs x = new OneEyeTwoLegs(2, 2);
        for (int k = 0; k < 3; k++) x.rider(k);
        for (int k = 0; k < 2; k++) x.carrier(k);
        read(x, "likes if asks=0?if rider=1?carrier:-carrier end:if carrier=0 and rider=2?1:0 end end;");
        // 2 drives 0 from carrier 0; then carrier 1 keeps 0, whom he likes as he likes 1: the lowest
        due(22, "the lowest of like ones", x.wed(0, 0, 0), 1);
        due(22, "nobody for the other", x.wed(0, 0, 1), NONE);
        due(22, "who drove him out", x.wed(0, 0, 2), 0);
    }

    private static void crowds() {
        OneEyeTwoLegs x = new OneEyeTwoLegs(5, 2);
        read(x, "");
        due(23, "nobody", x.crowd(3), 0);
        x.pair(1, 0);
        due(23, "at first", x.crowd(0), 0);
        due(23, "no row", x.crowd(1), NONE);
        row(x, 0, 3);
        due(23, "every second round", x.crowd(4), 7);
        due(23, "elsewhere", x.crowd(5), NONE);
        int[] others = {-1, 10, MIN, MAX};
        for (int o : others) due(23, "crowd(" + o + ")", x.crowd(o), NONE);
        x.pair(5, 0);
        // the second is ahead: the first waits for a round of the row, then follows
        due(23, "one waits for the other", x.crowd(4), 9);
        row(x, 0);
        due(23, "one waits for the other", x.crowd(4), 5);
        due(23, "it changes nothing", x.of(1, 0), 5);
        due(23, "it is no step", x.about(5), 0);
        x.back();
        read(x, "");
        x.pair(1, 0);
        x.pair(7, 0);
        row(x, 0);
        due(23, "face to face they stand for ever", x.crowd(4), NONE);
        x.back();
        read(x, "");
        x.pair(9, 0);
        x.pair(5, 0);
        row(x, 0);
        due(23, "out at once, within the round", x.crowd(3), 2);
        x.pair(13, 0);
        due(23, "out at first", x.crowd(3), 2);
        x.back();
        read(x, "");
        x.pair(1, 0);
        x.pair(1, 0);
        row(x, 0);
        due(23, "both in one cell", x.crowd(2), 3);
        longWay();
    }

    private static void longWay() {
        OneEyeTwoLegs x = new OneEyeTwoLegs(5, 5);
        read(x, "does if tap=0?if ahead=1?3:1 end:0 end;");
        x.pair(1, 0);
        // 13 deeds lead along the edge to cell 21; the 13th comes in round 12 * 16 + 8
        row(x, 3, 3, 3, 3, 3, 3, 3, 0, 3, 3, 3, 3, 3, 3, 3, 3);
        due(23, "just 200", x.crowd(21), 200);
        row(x, 3, 3, 3, 3, 3, 3, 3, 3, 0, 3, 3, 3, 3, 3, 3, 3);
        due(23, "201 are too many", x.crowd(21), NONE);
    }

    private static void chases() {
        OneEyeTwoLegs x = new OneEyeTwoLegs(3, 2);
        read(x, "");
        read(x, "does 0;");
        read(x, "does 1;");
        due(24, "in one cell", x.chase(0, 1, 0, 2), 0);
        due(25, "in one cell", x.hunt(0, 1, 0, 2), NONE);
        due(24, "next to him", x.chase(0, 1, 0, 5), 1);
        due(25, "next to him", x.hunt(0, 1, 0, 5), 0);
        due(24, "the thief stays", x.chase(0, 1, 1, 9), 3);
        due(24, "he must turn", x.chase(0, 0, 1, 8), 5);
        due(25, "to the right", x.hunt(0, 0, 1, 8), 2);
        due(24, "nobody comes", x.chase(1, 0, 1, 8), NONE);
        due(25, "nobody comes", x.hunt(1, 0, 1, 8), NONE);
        due(24, "the thief must come", x.chase(1, 1, 2, 11), 4);
        due(25, "whatever he taps", x.hunt(1, 1, 2, 11), 0);
        due(24, "the thief may stay away", x.chase(1, 1, 0, 11), NONE);
        due(24, "both must go", x.chase(2, 1, 2, 11), 2);
        int[][] others = {{-1, 0, 0, 0}, {3, 0, 0, 0}, {0, -1, 0, 0}, {0, 24, 0, 0}, {0, 0, -1, 0}, {0, 0, 3, 0}, {0, 0, 0, -1}, {0, 0, 0, 24},
            {MIN, 0, 0, 0}, {0, MAX, 0, 0}, {0, 0, MAX, 0}, {0, 0, 0, MIN}};
        for (int[] o : others) {
            due(24, "chase of others", x.chase(o[0], o[1], o[2], o[3]), NONE);
            due(25, "hunt of others", x.hunt(o[0], o[1], o[2], o[3]), NONE);
        }
        x.cell(1, 1);
        due(24, "a wall between", x.chase(2, 1, 1, 9), NONE);
        due(24, "around the wall", x.chase(0, 1, 1, 9), 13);
        due(25, "around the wall", x.hunt(0, 1, 1, 9), 2);
        due(24, "in a wall", x.chase(0, 5, 1, 9), NONE);
        due(25, "in a wall", x.hunt(0, 1, 1, 5), NONE);
    }

    private static void images() {
        OneEyeTwoLegs x = new OneEyeTwoLegs(3, 2);
        read(x, "");
        x.pair(1, 0);
        x.tap(0, 0);
        x.cell(5, 2);
        x.tap(0, 0);
        x.row(2);
        x.row(1);
        x.seen(0, 3, 0);
        x.rider(4);
        x.carrier(5);
        x.carrier(6);
        due(26, "image", x.image(), 1);
        int[] then = {3, 2, 1, 1, 2, 1, 1, 1, 2, 0, 0, 0, 0, 0, 0, 2};
        read(x, "does 4;");
        x.pair(5, 1);
        x.tap(0, 2);
        x.tap(1, 2);
        x.cell(3, 1);
        x.row(NONE);
        x.row(3);
        x.seen(1, 3, 1);
        x.rider(1);
        x.carrier(1);
        read(x, "does");
        x.feed(0, 0, 0, 0, 0);
        due(27, "back", x.back(), 1);
        due(27, "the tape stays", x.about(9), 20);
        due(27, "the fault stays", x.fault(1), 4);
        x.end(0);
        for (int k = 0; k < then.length; k++) due(27, "about(" + k + ")", x.about(k), then[k]);
        due(27, "its pose", x.of(0, 0), 9);
        due(27, "no second pair", x.of(1, 0), NONE);
        due(27, "no second text", x.goes(1, 0, 0), NONE);
        read(x, "does 2;");
        due(27, "a text of its number is another", x.goes(1, 5, 0), 4);
        due(27, "the row is turned", x.walk(0), 0);
        due(27, "left and right", x.of(0, 0), 9);
        due(27, "undo the walk", x.undo(), 0);
        due(27, "undo what the image has", x.undo(), 0);
        due(27, "its pose", x.of(0, 0), 5);
        due(27, "back again", x.back(), 1);
        due(27, "the image stays", x.of(0, 0), 9);
        due(27, "undo again", x.undo(), 0);
        x.cell(4, 1);
        x.back();
        due(27, "the town is as it was", x.goes(0, 6, 0), 18);
    }

    private static void abouts() {
        OneEyeTwoLegs x = new OneEyeTwoLegs(4, 3);
        int[] others = {-1, -2, 22, 23, MIN, MAX, MIN + 9};
        for (int o : others) due(28, "about(" + o + ")", x.about(o), -2);
        for (int p = 0; p < 12; p++) x.cell(p, p % 4);
        for (int p = 0; p < 12; p++) due(28, "kind of " + p, x.about(10 + p), p % 4);
        x.feed(1, 2, 3, 4, 5);
        due(28, "W", x.about(0), 4);
        due(28, "H", x.about(1), 3);
        due(28, "bytes", x.about(9), 20);
        due(28, "NONE", NONE, -1);
        due(28, "SPENT", SPENT, -2);
    }

    public static void main(String[] args) {
        newObject();
        cells();
        pairs();
        tape();
        texts();
        faults();
        sums();
        goings();
        steps();
        walks();
        fewestTaps();
        tellingApart();
        oddsOfRows();
        seenWalks();
        inTheDark();
        weddings();
        crowds();
        chases();
        images();
        abouts();
        endOf("PromisesTest");
    }
}
