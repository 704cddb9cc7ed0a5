/** Each sentence with a boundary of the document's part IV and of promises 20 to 27, by a test of its own. */
public final class CrowdBoundsTest extends Calls {
    private static final String STAYS = "does 0;";
    private static final String MUST_GO = "does 1;";
    private static final String ON_AT_0 = "does if tap=0?1:0 end;";
    private static final String ON_AT_1 = "does if tap=1?1:0 end;";

    private static OneEyeTwoLegs wedding(int[] sights, int[] paces, String... texts) {
        OneEyeTwoLegs x = town(2, 2, texts);
        for (int sight : sights) x.rider(sight);
        for (int pace : paces) x.carrier(pace);
        return x;
    }

    /** Whom each rider has, if this side asks. */
    private static void wedsAs(OneEyeTwoLegs x, int text, int side, int... carriers) {
        for (int rider = 0; rider < carriers.length; rider++) {
            due("wed(" + text + ", " + side + ", " + rider + ")", x.wed(text, side, rider), carriers[rider]);
        }
        due("a rider too many", x.wed(text, side, carriers.length), NONE);
    }

    private static void sixRiders() {
        sentence(20, "RIDERS 0 .. 5 (SIGHT 0 .. 9)");
        OneEyeTwoLegs x = town("");
        int[] sights = {0, 9, 1, 8, 0, 9};
        for (int k = 0; k < 6; k++) due("rider(" + sights[k] + ")", x.rider(sights[k]), k + 1);
        sentence(20, "A RIDER: how many there are. NONE for others, or if there are 6.");
        due("a 7th", x.rider(5), NONE);
        due("how many", x.about(7), 6);
        due("no carrier came", x.about(8), 0);
        OneEyeTwoLegs y = town("");
        int[] others = {-1, 10, 11, -2, MIN, MAX};
        for (int o : others) due("rider(" + o + ")", y.rider(o), NONE);
        due("how many", y.about(7), 0);
    }

    private static void sixCarriers() {
        sentence(21, "CARRIERS 0 .. 5 (PACE 0 .. 9), told one by one");
        OneEyeTwoLegs x = town("");
        int[] paces = {9, 0, 8, 1, 9, 0};
        for (int k = 0; k < 6; k++) due("carrier(" + paces[k] + ")", x.carrier(paces[k]), k + 1);
        sentence(21, "A CARRIER: how many there are. NONE for others, or if there are 6.");
        due("a 7th", x.carrier(5), NONE);
        due("how many", x.about(8), 6);
        due("no rider came", x.about(7), 0);
        OneEyeTwoLegs y = town("");
        int[] others = {-1, 10, 11, -2, MIN, MAX};
        for (int o : others) due("carrier(" + o + ")", y.carrier(o), NONE);
        due("how many", y.about(8), 0);
    }

    private static void withoutLikes() {
        sentence(22, "likes (without: 0), the greatest first, of like ones the lowest");
        int[] six = {5, 0, 9, 1, 7, 3};
        OneEyeTwoLegs x = wedding(six, six, "", "does 1;fears 1=1;", "likes 0;");
        for (int text = 0; text < 3; text++) {
            for (int side = 0; side < 2; side++) wedsAs(x, text, side, 0, 1, 2, 3, 4, 5);
        }
    }

    private static void theGreatestFirst() {
        sentence(22, "likes (without: 0), the greatest first, of like ones the lowest");
        OneEyeTwoLegs x = wedding(new int[] {0, 9, 4}, new int[] {3, 9, 3}, "likes pace;", "likes -pace;", "likes if asks=0?pace:sight end;");
        // all want carrier 1, who likes them alike; then 0 ahead of 2
        wedsAs(x, 0, 0, 1, 0, 2);
        wedsAs(x, 0, 1, 1, 0, 2);
        wedsAs(x, 1, 0, 0, 2, 1);
        wedsAs(x, 1, 1, 0, 2, 1);
        wedsAs(x, 2, 0, 2, 1, 0);
        wedsAs(x, 2, 1, 2, 1, 0);
        OneEyeTwoLegs y = wedding(new int[] {1, 1}, new int[] {1, 1}, "likes -1000*1000+carrier;", "likes 1000*1000-rider;", "likes rider*1000*1000*(1-2*carrier);");
        wedsAs(y, 0, 0, 1, 0);
        wedsAs(y, 1, 0, 0, 1);
        // likings as far apart as they can be
        wedsAs(y, 2, 0, 1, 0);
        wedsAs(y, 2, 1, 1, 0);
    }

    private static void whoLikes() {
        sentence(22, "asks (0 the rider, 1 the carrier)");
        // riders like their own number, carriers any other: each side has its will if it asks
        OneEyeTwoLegs x = wedding(new int[] {1, 1}, new int[] {1, 1}, "likes if asks=0?if rider=carrier?1:0 end:if rider=carrier?0:1 end end;");
        wedsAs(x, 0, 0, 0, 1);
        wedsAs(x, 0, 1, 1, 0);
        OneEyeTwoLegs y = wedding(new int[] {2, 7}, new int[] {2}, "likes if asks=0?0:sight end;", "likes if asks=1?0:sight end;");
        wedsAs(y, 0, 0, NONE, 0);
        wedsAs(y, 0, 1, NONE, 0);
        wedsAs(y, 1, 0, 0, NONE);
        wedsAs(y, 1, 1, 0, NONE);
    }

    private static void whoIsAskedKeeps() {
        sentence(22, "who is asked keeps the one whom he likes most");
        // 2 drives 0 from carrier 0; 0 then asks carrier 1, who likes him as he likes 1: the lowest stays
        OneEyeTwoLegs x = wedding(new int[] {0, 1, 2}, new int[] {0, 1}, "likes if asks=0?if rider=1?carrier:-carrier end:if carrier=0 and rider=2?1:0 end end;");
        wedsAs(x, 0, 0, 1, NONE, 0);
        // all carriers want rider 0, who likes the last most; so each drives out the one before
        OneEyeTwoLegs y = wedding(new int[] {0, 0, 0}, new int[] {1, 2, 3}, "likes if asks=1?-rider:pace end;");
        wedsAs(y, 0, 1, 2, 1, 0);
        wedsAs(y, 0, 0, 2, 1, 0);
    }

    private static void byOneSide() {
        sentence(22, "WED by one side (0 riders ask, 1 carriers ask): each who is free asks the one that he likes most of those whom he hasn't asked");
        int[] three = {0, 1, 2};
        // rider r likes r, r + 1, r + 2 (by 3) in this order, carrier c likes c + 1, c + 2, c: all have their will, or nobody has
        String text = "likes if asks=0?-(carrier-rider+3-(carrier-rider+3)/3*3):-(rider-carrier+2-(rider-carrier+2)/3*3) end;";
        OneEyeTwoLegs x = wedding(three, three, text);
        wedsAs(x, 0, 0, 0, 1, 2);
        wedsAs(x, 0, 1, 2, 0, 1);
    }

    private static void tillNobodyHasOneToAsk() {
        sentence(22, "till nobody who is free has one to ask");
        int[] one = {4};
        int[] six = {0, 1, 2, 3, 4, 5};
        String text = "likes if asks=0?pace:sight end;";
        wedsAs(wedding(six, one, text), 0, 0, NONE, NONE, NONE, NONE, NONE, 0);
        wedsAs(wedding(six, one, text), 0, 1, NONE, NONE, NONE, NONE, NONE, 0);
        wedsAs(wedding(one, six, text), 0, 0, 5);
        wedsAs(wedding(one, six, text), 0, 1, 5);
        wedsAs(wedding(six, six, text), 0, 0, 0, 1, 2, 3, 4, 5);
        wedsAs(wedding(six, six, "likes if asks=0?-pace:sight end;"), 0, 0, 5, 4, 3, 2, 1, 0);
        wedsAs(wedding(six, six, "likes if asks=0?-pace:sight end;"), 0, 1, 5, 4, 3, 2, 1, 0);
        // the most askings: all want the same ones, who want the last ones
        wedsAs(wedding(six, six, "likes if asks=0?-carrier:rider end;"), 0, 0, 5, 4, 3, 2, 1, 0);
    }

    private static void wedOfNobody() {
        sentence(22, "WED: whom a RIDER has. NONE: nobody, and for others.");
        int[] none = {};
        int[] two = {1, 2};
        OneEyeTwoLegs x = wedding(two, none, "");
        for (int side = 0; side < 2; side++) {
            wedsAs(wedding(none, none, ""), 0, side);
            wedsAs(wedding(none, two, ""), 0, side);
            wedsAs(x, 0, side, NONE, NONE);
        }
        due("no text", wedding(two, two).wed(0, 0, 0), NONE);
        x.carrier(1);
        wedsAs(x, 0, 0, 0, NONE);
        for (int o : OUTSIDE) {
            due("text " + o, x.wed(o, 0, 0), NONE);
            due("side " + o, x.wed(0, o, 0), NONE);
            due("rider " + o, x.wed(0, 0, o), NONE);
        }
        due("a text too many", x.wed(1, 0, 0), NONE);
        due("a side too many", x.wed(0, 2, 0), NONE);
        due("a rider too many", x.wed(0, 0, 2), NONE);
        due("a 7th rider", wedding(new int[] {1, 1, 1, 1, 1, 1}, two, "").wed(0, 0, 6), NONE);
    }

    private static OneEyeTwoLegs crowd(int[] taps, int[][] pairs, String... texts) {
        OneEyeTwoLegs x = town(5, 2, texts);
        for (int[] pair : pairs) x.pair(pair[0], pair[1]);
        row(x, taps);
        return x;
    }

    private static void rowOverAndOver() {
        sentence(23, "A CROWD of PAIRS, each of which goes THE ROW over and over (if it has any TAP)");
        int[][] one = {{1, 0}};
        due("one tap", crowd(new int[] {0}, one, "").crowd(4), 4);
        due("two taps", crowd(new int[] {0, 3}, one, "").crowd(4), 7);
        due("two taps", crowd(new int[] {3, 0}, one, "").crowd(4), 8);
        due("three taps", crowd(new int[] {3, 0, 0}, one, "").crowd(4), 6);
        due("16 taps, and two more", crowd(new int[] {0, 0, 3, 3, 3, 3, 3, 3, 3, 3, 3, 3, 3, 3, 3, 3}, one, "").crowd(4), 18);
        due("no tap", crowd(new int[] {}, one, "").crowd(4), NONE);
        due("no tap, at first", crowd(new int[] {}, one, "").crowd(0), 0);
        due("no tap, no pair", crowd(new int[] {}, new int[][] {}, "").crowd(4), 0);
        due("no pair", crowd(new int[] {0}, new int[][] {}, "").crowd(4), 0);
    }

    private static void pairByPair() {
        sentence(23, "ROUND by ROUND, PAIR by PAIR by number, one TAP each");
        due("the first is ahead", crowd(new int[] {0}, new int[][] {{5, 0}, {1, 0}}, "").crowd(4), 4);
        due("the second is ahead", crowd(new int[] {0}, new int[][] {{1, 0}, {5, 0}}, "").crowd(4), 5);
        int[][] six = {{17, 0}, {13, 0}, {9, 0}, {5, 0}, {1, 0}, {21, 1}};
        due("all go at once, but one", crowd(new int[] {0}, six, "", STAYS).crowd(4), NONE);
        six[5] = new int[] {20, 0};
        due("the last one goes up", crowd(new int[] {0}, six, "").crowd(0), NONE);
        due("five in a row", crowd(new int[] {0}, new int[][] {{17, 0}, {13, 0}, {9, 0}, {5, 0}, {1, 0}}, "").crowd(4), 4);
        due("five in a row, the last first", crowd(new int[] {0}, new int[][] {{1, 0}, {5, 0}, {9, 0}, {13, 0}, {17, 0}}, "").crowd(4), 7);
    }

    private static void intoTheCellOfAnother() {
        sentence(23, "who would go into the cell of another PAIR stays (it is no BUMP)");
        due("he waits", crowd(new int[] {0, 1}, new int[][] {{1, 0}, {5, 1}}, ON_AT_0, ON_AT_1).crowd(4), 9);
        due("face to face", crowd(new int[] {0}, new int[][] {{1, 0}, {7, 0}}, "").crowd(4), NONE);
        due("both in one cell go on", crowd(new int[] {0}, new int[][] {{1, 0}, {1, 0}}, "").crowd(2), 3);
        due("both in one cell may turn", crowd(new int[] {2, 0}, new int[][] {{0, 0}, {0, 0}}, "").crowd(1), 2);
        // the stay is the tap's: he doesn't make up for it
        due("the tap is gone", crowd(new int[] {0, 3, 3}, new int[][] {{1, 0}, {5, 0}}, "").crowd(2), 7);
    }

    private static void upTo200() {
        sentence(23, "After how many ROUNDS (0 .. 200) all PAIRS have been at HOME at the end of some ROUND or at first");
        for (int place = 6; place <= 9; place++) {
            OneEyeTwoLegs x = town(5, 5, "does if tap=0?if ahead=1?3:1 end:0 end;");
            x.pair(1, 0);
            int[] taps = {3, 3, 3, 3, 3, 3, 3, 3, 3, 3, 3, 3, 3, 3, 3, 3};
            taps[place] = 0;
            row(x, taps);
            // 13 deeds lead along the edge to cell 21, one in 16 rounds
            int rounds = 12 * 16 + place + 1;
            due("round " + rounds, x.crowd(21), rounds <= 200 ? rounds : NONE);
        }
        due("at first", crowd(new int[] {0}, new int[][] {{1, 0}, {3, 0}}, "").crowd(0), 0);
        due("one at first, one in a round", crowd(new int[] {0}, new int[][] {{1, 0}, {7, 0}}, "").crowd(0), 1);
        due("one after the other", crowd(new int[] {0}, new int[][] {{5, 0}, {19, 0}}, "").crowd(3), 2);
        sentence(23, "None: they aren't within 200.");
        due("one of two never is", crowd(new int[] {0}, new int[][] {{5, 0}, {17, 0}}, "").crowd(3), NONE);
        due("he goes by", crowd(new int[] {3}, new int[][] {{5, 0}}, "").crowd(3), NONE);
    }

    private static void takenOutAtOnce() {
        sentence(23, "a PAIR that comes there is taken out of THE TOWN at once, within the ROUND");
        due("both come in one round", crowd(new int[] {0}, new int[][] {{9, 0}, {19, 0}}, "").crowd(3), 1);
        due("six come in one round", crowd(new int[] {0}, new int[][] {{9, 0}, {19, 0}, {9, 0}, {19, 0}, {32, 0}, {32, 0}}, "").crowd(3), 1);
        due("who was there at first doesn't hinder", crowd(new int[] {0}, new int[][] {{13, 1}, {9, 0}}, "", STAYS).crowd(3), 1);
        due("who came doesn't hinder, he would stay", crowd(new int[] {0}, new int[][] {{9, 0}, {1, 0}}, "does if x=3?0:1 end;").crowd(3), 3);
        due("who came doesn't go on and hinder", crowd(new int[] {0}, new int[][] {{9, 0}, {1, 0}}, "").crowd(3), 3);
    }

    private static void crowdIsTried() {
        sentence(23, "(TRIED: it changes nothing.)");
        OneEyeTwoLegs x = crowd(new int[] {0}, new int[][] {{1, 0}, {5, 0}}, "");
        x.tap(0, 0);
        for (int k = 0; k < 3; k++) due("the same each time", x.crowd(4), 4);
        due("his pose", x.of(0, 0), 5);
        due("the other's", x.of(1, 0), 5);
        due("steps", x.about(5), 1);
        due("pairs", x.about(2), 2);
        due("taps", x.about(4), 1);
    }

    private static void crowdOfOthers() {
        sentence(23, "A CROWD to a HOME: how many ROUNDS. NONE: none, and for others.");
        OneEyeTwoLegs x = crowd(new int[] {0}, new int[][] {}, "");
        due("the last cell", x.crowd(9), 0);
        due("the first cell", x.crowd(0), 0);
        sentence(23, "HOME: a cell.");
        due("a cell too many", x.crowd(10), NONE);
        for (int o : OUTSIDE) due("crowd(" + o + ")", x.crowd(o), NONE);
        x.cell(1, 1);
        due("a wall, nobody", x.crowd(1), 0);
        x.pair(1, 0);
        due("a wall", x.crowd(1), NONE);
    }

    private static void caughtAtFirst() {
        sentence(24, "CAUGHT: both are in one cell, at first or behind a turn.");
        OneEyeTwoLegs x = town("", STAYS, MUST_GO);
        for (int heading = 0; heading < 4; heading++) {
            due("at first", x.chase(0, 20, 0, 20 + heading), 0);
            due("at first, nobody goes", x.chase(1, heading, 1, 3), 0);
            due("at first, nobody goes", x.chase(1, heading, 1, 0), 0);
        }
        sentence(24, "A CHASE: a catcher (a HABIT, a POSE) and a thief, the catcher first, by turns; each gives one TAP to his carrier.");
        due("behind the catcher's turn", x.chase(0, 1, 0, 5), 1);
        due("behind the thief's turn", x.chase(1, 1, 2, 7), 2);
        due("behind his second turn", x.chase(1, 1, 2, 11), 4);
        due("they go through one another's cells, so he comes first", x.chase(2, 1, 2, 7), 1);
        due("both come nearer", x.chase(2, 1, 2, 11), 2);
        due("they go away", x.chase(2, 3, 2, 9), NONE);
    }

    private static void turnsOfBoth() {
        sentence(24, "The catcher CATCHES in t turns (of both), if he can for all that the thief does (t the least such, the thief putting it off); else never.");
        OneEyeTwoLegs x = town("", STAYS, "does if heading=3?1:if heading=0 and tap=0?2:3 end end;", ON_AT_0);
        due("two cells away", x.chase(0, 1, 1, 9), 3);
        due("he turns first", x.chase(0, 0, 1, 8), 5);
        // the thief can turn once or three times before he must go on twice
        due("the thief puts it off", x.chase(1, 1, 2, 8), 10);
        due("the thief may stay for ever", x.chase(1, 1, 3, 7), NONE);
        due("the catcher can't", x.chase(1, 1, 1, 5), NONE);
        due("the least", x.chase(3, 1, 1, 9), 3);
        x.cell(1, 1);
        x.cell(4, 1);
        due("walls between", x.chase(0, 1, 0, 9), NONE);
    }

    private static void forAllThatTheThiefDoes() {
        sentence(24, "The catcher CATCHES in t turns (of both), if he can for all that the thief does (t the least such, the thief putting it off); else never.");
        for (int tap = 0; tap < 4; tap++) {
            OneEyeTwoLegs x = town(STAYS, "does if tap=" + tap + "?0:1 end;", "does if tap=" + tap + "?1:0 end;");
            due("by tap " + tap + " alone he stays away", x.chase(0, 1, 1, 7), NONE);
            due("by tap " + tap + " alone he comes", x.chase(0, 1, 2, 7), NONE);
            due("by tap " + tap + " alone he catches", x.chase(2, 1, 0, 5), 1);
            due("by that one", x.hunt(2, 1, 0, 5), tap);
        }
        // the catcher turns in his cell, and by two taps of four the thief comes there
        OneEyeTwoLegs y = town("does if tap=0?2:0 end;", "does if tap<2?1:0 end;");
        due("turning catches nobody", y.chase(0, 1, 1, 7), NONE);
    }

    private static void atTheEdgesOfTheTown() {
        sentence(24, "A CHASE: a catcher (a HABIT, a POSE) and a thief, the catcher first, by turns; each gives one TAP to his carrier.");
        OneEyeTwoLegs x = town("", STAYS, MUST_GO, "does if heading=2?3:1 end;");
        due("the thief comes to pose 0", x.chase(1, 0, 2, 12), 2);
        due("the thief turns to the last pose, then he comes", x.chase(1, 16, 3, 22), 4);
        due("the catcher turns to the last pose, then he goes", x.chase(0, 20, 1, 16), 3);
        due("by the left", x.hunt(0, 20, 1, 16), 1);
        due("the catcher comes to pose 0", x.chase(0, 12, 1, 0), 1);
        due("by the first tap", x.hunt(0, 12, 1, 0), 0);
        OneEyeTwoLegs y = town(5, 5, "", STAYS);
        due("from one corner to the other", y.chase(0, 0, 1, 99), 2 * 10 - 1);
        due("and back", y.chase(0, 99, 1, 0), 2 * 9 - 1);
    }

    private static void aroundWalls() {
        sentence(24, "A CHASE: in how many turns.");
        OneEyeTwoLegs x = town("", STAYS, MUST_GO);
        due("no wall yet", x.chase(0, 1, 1, 9), 3);
        x.cell(1, 1);
        // right, on, left, on, on, left, on
        due("around a wall", x.chase(0, 1, 1, 9), 13);
        due("to the right first", x.hunt(0, 1, 1, 9), 2);
        due("the other way", x.chase(0, 11, 1, 0), 13);
        due("to the left first", x.hunt(0, 11, 1, 0), 1);
        due("he must go, into the wall", x.chase(2, 1, 1, 9), NONE);
        due("the thief must go, into the wall", x.chase(1, 1, 2, 11), NONE);
        due("below the wall", x.chase(2, 13, 2, 23), 2);
        x.cell(1, 0);
        due("no wall any more", x.chase(0, 1, 1, 9), 3);
        OneEyeTwoLegs y = town(5, 5, "", STAYS, MUST_GO);
        for (int p = 0; p < 20; p++) if (p % 5 == 1 || p % 5 == 3) y.cell(p, 1);
        // four down, one turn, four along, one turn, four up
        due("along the edges", y.chase(0, 2, 1, 4 * 4), 2 * 14 - 1);
        due("on first", y.hunt(0, 2, 1, 4 * 4), 0);
        due("in the middle", y.chase(0, 2, 1, 4 * 2), 2 * 12 - 1);
        due("the thief comes down the middle", y.chase(1, 88, 2, 10), 8);
        due("he comes to the walls, and stays", y.chase(1, 88, 2, 49), NONE);
    }

    private static void neverCaught() {
        sentence(24, "NONE: never, and for others.");
        due("no text", town().chase(0, 0, 0, 0), NONE);
        OneEyeTwoLegs x = town("");
        for (int o : OUTSIDE) {
            due("habit " + o, x.chase(o, 0, 0, 0), NONE);
            due("pose " + o, x.chase(0, o, 0, 0), NONE);
            due("thief's " + o, x.chase(0, 0, o, 0), NONE);
            due("thief " + o, x.chase(0, 0, 0, o), NONE);
        }
        sentence(24, "A CHASE: in how many turns.");
        due("one", x.chase(0, 1, 0, 5), 1);
        sentence(24, "NONE: never, and for others.");
        due("a habit too many", x.chase(1, 0, 0, 0), NONE);
        due("a pose too many", x.chase(0, 24, 0, 0), NONE);
        due("a thief's habit too many", x.chase(0, 0, 1, 0), NONE);
        due("a thief too many", x.chase(0, 0, 0, 24), NONE);
        due("the last pose of both", x.chase(0, 23, 0, 23), 0);
    }

    private static void theLowestTap() {
        sentence(25, "A CHASE's best first TAP of the catcher (the lowest by which he CATCHES soonest).");
        OneEyeTwoLegs x = town("", STAYS, MUST_GO, "does if tap<2?0:1 end;");
        due("on", x.hunt(0, 1, 1, 9), 0);
        due("to the left", x.hunt(0, 2, 1, 9), 1);
        due("to the right", x.hunt(0, 0, 1, 9), 2);
        due("about, by the left", x.hunt(0, 3, 1, 9), 1);
        due("the lower of two", x.hunt(3, 1, 1, 9), 2);
        due("all are alike", x.hunt(1, 1, 2, 11), 0);
        due("at once", x.hunt(0, 1, 0, 5), 0);
        OneEyeTwoLegs y = town(STAYS, "does 3-tap;");
        due("tap 0 is later", y.hunt(1, 1, 0, 5), 2);
        due("he turns by the lowest", y.hunt(1, 0, 0, 5), 0);
    }

    private static void noHunt() {
        sentence(25, "NONE: never, both are in one cell, and for others.");
        due("no text", town().hunt(0, 1, 0, 5), NONE);
        OneEyeTwoLegs x = town("", STAYS);
        due("never", x.hunt(1, 1, 1, 5), NONE);
        for (int heading = 0; heading < 4; heading++) due("both in one cell", x.hunt(0, 20, 0, 20 + heading), NONE);
        for (int o : OUTSIDE) {
            due("habit " + o, x.hunt(o, 1, 0, 5), NONE);
            due("pose " + o, x.hunt(0, o, 0, 5), NONE);
            due("thief's " + o, x.hunt(0, 1, o, 5), NONE);
            due("thief " + o, x.hunt(0, 1, 0, o), NONE);
        }
        due("a habit too many", x.hunt(2, 1, 0, 5), NONE);
        due("a pose too many", x.hunt(0, 24, 0, 5), NONE);
        due("a thief's habit too many", x.hunt(0, 1, 2, 5), NONE);
        due("a thief too many", x.hunt(0, 1, 0, 24), NONE);
    }

    /** Changes all that an image keeps, by the calls that change it. */
    private static void changeAll(OneEyeTwoLegs x) {
        x.cell(5, 3);
        read(x, "does 4;");
        x.pair(8, 1);
        x.tap(0, 1);
        x.tap(1, 1);
        x.row(NONE);
        for (int k = 0; k < 5; k++) x.row(3);
        x.seen(1, 1, 2);
        x.rider(9);
        x.carrier(9);
    }

    private static OneEyeTwoLegs imaged() {
        OneEyeTwoLegs x = town("likes if asks=0?pace:sight end;");
        x.cell(5, 2);
        x.pair(1, 0);
        x.tap(0, 0);
        x.tap(0, 0);
        row(x, 1, 0);
        x.seen(0, 1, 3);
        x.rider(4);
        x.rider(6);
        x.carrier(5);
        return x;
    }

    private static void isAsImaged(OneEyeTwoLegs x) {
        int[] all = {3, 2, 1, 1, 2, 2, 1, 2, 1};
        for (int what = 0; what < all.length; what++) due("about(" + what + ")", x.about(what), all[what]);
        for (int p = 0; p < 6; p++) due("kind of " + p, x.about(10 + p), p == 5 ? 2 : 0);
        due("its pose", x.of(0, 0), 9);
        due("its habit", x.of(0, 1), 0);
        due("no second one", x.of(1, 0), NONE);
        due("a text's way", x.goes(0, 1, 0), 5);
        due("no second text", x.goes(1, 1, 0), NONE);
        due("holds", x.holds(), 1);
        due("the row, no bump", x.dark(0, 0, NONE), 14);
        due("the row, a bump at its second tap", x.dark(0, 2, NONE), 10);
        due("wed", x.wed(0, 0, 0), NONE);
        due("wed", x.wed(0, 0, 1), 0);
        due("its latest step", x.undo(), 0);
        due("ahead of it", x.of(0, 0), 5);
        due("its first step", x.undo(), 0);
        due("ahead of it", x.of(0, 0), 1);
        due("no step more", x.undo(), NONE);
    }

    private static void imageOfAll() {
        sentence(26, "THE IMAGE is as all is now: how many PAIRS there are.");
        OneEyeTwoLegs x = imaged();
        due("image()", x.image(), 1);
        changeAll(x);
        due("a later one has more pairs", x.about(2), 2);
        due("back()", x.back(), 1);
        isAsImaged(x);
        changeAll(x);
        due("image()", x.image(), 2);
        due("back()", x.back(), 2);
        due("kind", x.about(15), 3);
        due("taps", x.about(4), 5);
        OneEyeTwoLegs y = new OneEyeTwoLegs(2, 2);
        due("of nothing", y.image(), 0);
        y.text();
        for (int k = 0; k < 6; k++) y.pair(0, 0);
        due("of six", y.image(), 6);
    }

    private static void allIsSoAgain() {
        sentence(27, "BACK to THE IMAGE (it stays): how many PAIRS there are.");
        OneEyeTwoLegs x = imaged();
        x.image();
        for (int k = 0; k < 3; k++) {
            changeAll(x);
            due("back()", x.back(), 1);
            due("back() again", x.back(), 1);
            isAsImaged(x);
        }
        x.back();
        read(x, "does 2;");
        due("a text of the same number is another", x.goes(1, 1, 0), 0);
        x.back();
        read(x, "does 3;");
        due("a text of the same number is another", x.goes(1, 1, 0), 2);
        x.back();
        x.cell(1, 1);
        due("a wall", x.goes(0, 1, 0), 201);
        x.back();
        due("no wall", x.goes(0, 1, 0), 5);
        due("no image was made", new OneEyeTwoLegs(2, 2).back(), 0);
    }

    private static void whatComesBehindABack() {
        sentence(27, "BACK: all is so again.");
        OneEyeTwoLegs x = town("", STAYS);
        x.image();
        for (int k = 0; k < 3; k++) {
            x.pair(1, 0);
            due("his tap", x.tap(0, 0), 5);
            x.seen(1, 0, 5);
            due("what holds", x.holds(), 1);
            row(x, 0);
            due("the row", x.dark(0, 1, NONE), 10);
            x.back();
            x.pair(2, 1);
            due("another one's habit", x.of(0, 1), 1);
            due("another one's tap", x.tap(0, 0), 2);
            x.seen(2, 3, 2);
            due("what holds then", x.holds(), 3);
            row(x, 2);
            due("another row", x.dark(0, 1, NONE), 0);
            x.back();
        }
    }

    private static void thirtyStepsOfAnImage() {
        sentence(27, "BACK: all is so again.");
        OneEyeTwoLegs x = town("");
        x.pair(0, 0);
        for (int k = 0; k < 30; k++) x.tap(0, 2);
        x.image();
        for (int k = 0; k < 30; k++) x.tap(0, 3);
        x.back();
        for (int k = 29; k >= 0; k--) {
            due("undo", x.undo(), 0);
            due("its pose", x.of(0, 0), k % 4);
        }
        due("none more", x.undo(), NONE);
        x.back();
        due("all of them again", x.about(5), 30);
    }

    private static void noTapeAndNoFault() {
        sentence(26, "AN IMAGE: all as it is, but the tape and the latest FAULT.");
        OneEyeTwoLegs x = town("");
        read(x, "does 10000;");
        feed(x, "does 3;");
        x.image();
        feed(x, "does 2; ");
        due("back()", x.back(), 0);
        due("the tape stays", x.about(9), 8);
        due("the fault stays", x.fault(0), 2);
        due("a text of the tape", x.text(), 1);
        due("what it does", x.goes(1, 1, 0), 0);
        x.back();
        due("the fault stays", x.fault(0), 0);
        due("its place stays", x.fault(1), NONE);
        due("the tape stays empty", x.about(9), 0);
        read(x, "does");
        x.back();
        due("the fault stays", x.fault(0), 1);
        due("its place stays", x.fault(1), 4);
        x.image();
        due("an image changes no fault", x.fault(1), 4);
        feed(x, "does 4;");
        x.image();
        due("an image changes no tape", x.about(9), 7);
    }

    public static void main(String[] args) {
        sixRiders();
        sixCarriers();
        withoutLikes();
        theGreatestFirst();
        whoLikes();
        whoIsAskedKeeps();
        byOneSide();
        tillNobodyHasOneToAsk();
        wedOfNobody();
        rowOverAndOver();
        pairByPair();
        intoTheCellOfAnother();
        upTo200();
        takenOutAtOnce();
        crowdIsTried();
        crowdOfOthers();
        caughtAtFirst();
        turnsOfBoth();
        forAllThatTheThiefDoes();
        atTheEdgesOfTheTown();
        aroundWalls();
        neverCaught();
        theLowestTap();
        noHunt();
        imageOfAll();
        allIsSoAgain();
        whatComesBehindABack();
        thirtyStepsOfAnImage();
        noTapeAndNoFault();
        endOf("CrowdBoundsTest");
    }
}
