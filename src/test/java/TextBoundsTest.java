/** Each sentence with a boundary of the document's part II and of promises 4 to 7, by a test of its own. */
public final class TextBoundsTest extends Calls {
    // "does if 1=1?3:4 end;" as feed takes it
    private static final int[] TURNS_RIGHT = {0x646f6573, 0x20696620, 0x313d313f, 0x333a3420, 0x656e643b};
    private static final String[] OF_DEEDS = {"tap", "heading", "x", "y", "here", "ahead"};
    private static final String[] OF_LIKES = {"rider", "carrier", "sight", "pace", "asks"};

    private static int feed(OneEyeTwoLegs x, int[] fours) {
        return x.feed(fours[0], fours[1], fours[2], fours[3], fours[4]);
    }

    private static int blanks(OneEyeTwoLegs x) {
        return x.feed(0x20202020, 0x20202020, 0x20202020, 0x20202020, 0x20202020);
    }

    private static int wrongs(OneEyeTwoLegs x) {
        return x.feed(0x21212121, 0x21212121, 0x21212121, 0x21212121, 0x21212121);
    }

    /** A fault and its place are due; fault 0: none, and the place is NONE. */
    private static void faultOf(String text, int fault, int place) {
        OneEyeTwoLegs x = new OneEyeTwoLegs(2, 2);
        due("text of \"" + text + "\"", read(x, text), fault == 0 ? 0 : NONE);
        due("fault of \"" + text + "\"", x.fault(0), fault);
        due("place of \"" + text + "\"", x.fault(1), place);
    }

    private static void isRight(String text) {
        faultOf(text, 0, NONE);
    }

    /** Whether an EITHER is so, as a text's fears is asked and as an if is asked. */
    private static void isSo(String either, boolean want) {
        OneEyeTwoLegs x = town("fears " + either + ";", "does if " + either + "?3:2 end;");
        due("texts of " + either, x.about(3), 2);
        due("fears " + either, x.goes(0, 1, 3), want ? 401 : 1);
        due("if " + either, x.goes(1, 1, 3), want ? 2 : 0);
    }

    private static void bytesInOrder() {
        sentence(4, "Twenty bytes come behind the tape, the highest of a first: how many it has.");
        OneEyeTwoLegs x = new OneEyeTwoLegs(2, 2);
        due("feed", feed(x, TURNS_RIGHT), 20);
        due("text()", x.text(), 0);
        due("what it does", x.goes(0, 0, 0), 1);
        due("behind an empty tape", x.feed(0x646f6573, 0x20202020, 0x20202020, 0x20202020, 0x20202020), 20);
        due("behind these", x.feed(0x20202020, 0x20202020, 0x20202020, 0x20202020, 0x2020343b), 40);
        due("text()", x.text(), 1);
        due("what it does", x.goes(1, 0, 0), 2);
        for (int k = 1; k <= 15; k++) due("feed " + k, blanks(x), 20 * k);
    }

    private static void highBytes() {
        sentence(4, "Twenty bytes come behind the tape, the highest of a first: how many it has.");
        int[] high = {0x80000000, 0xff000000, -1};
        for (int four : high) {
            OneEyeTwoLegs x = new OneEyeTwoLegs(2, 2);
            due("feed", x.feed(0x20202020, four, 0, 0, 0), 20);
            due("text()", x.text(), NONE);
            due("its fault", x.fault(0), 1);
            due("its place", x.fault(1), 4);
        }
        for (int k = 0; k < 20; k++) {
            OneEyeTwoLegs x = new OneEyeTwoLegs(2, 2);
            int[] fours = {0x20202020, 0x20202020, 0x20202020, 0x20202020, 0x20202020};
            fours[k / 4] |= 0x80 << 24 - 8 * (k % 4);
            feed(x, fours);
            x.text();
            due("place of byte " + k, x.fault(1), k);
        }
    }

    private static void atMost300() {
        sentence(4, "NONE, and none come, if there would be more than 300.");
        for (int length = 279; length <= 300; length++) {
            OneEyeTwoLegs x = new OneEyeTwoLegs(2, 2);
            feed(x, TURNS_RIGHT);
            for (int k = 0; k < 14; k++) blanks(x);
            x.end(length);
            boolean fits = length <= 280;
            due("20 more than " + length, wrongs(x), fits ? length + 20 : NONE);
            due("how many there are", x.about(9), fits ? length + 20 : length);
            due("text()", x.text(), fits ? NONE : 0);
        }
    }

    private static void firstBytesAlone() {
        sentence(5, "The tape has its first n bytes alone: n.");
        OneEyeTwoLegs x = new OneEyeTwoLegs(2, 2);
        due("none of none", x.end(0), 0);
        feed(x, TURNS_RIGHT);
        wrongs(x);
        due("all of 40", x.end(40), 40);
        due("how many", x.about(9), 40);
        due("all but one", x.end(39), 39);
        due("how many", x.about(9), 39);
        due("the first 20", x.end(20), 20);
        due("these alone", x.text(), 0);
        feed(x, TURNS_RIGHT);
        due("the first five", x.end(5), 5);
        due("what comes is behind them", x.feed(0x343b2020, 0x20202020, 0x20202020, 0x20202020, 0x20202020), 25);
        due("text()", x.text(), 1);
        due("what it does", x.goes(1, 0, 0), 2);
        wrongs(x);
        due("none", x.end(0), 0);
        due("the empty one", x.text(), 2);
    }

    private static void nothingBehindTheFirstBytes() {
        sentence(5, "The tape has its first n bytes alone: n.");
        Object[][] cuts = {{"does tap;", 7, 1, 5}, {"does taps;", 8, 1, 8}, {"does 99999;", 9, 1, 9}, {"does 1;does", 8, 1, 7},
            {"does 1;!", 7, 0, NONE}, {"fears 1<=2;", 8, 1, 8}, {"does 1;likes 1;", 7, 0, NONE}, {"does", 3, 1, 0}};
        for (Object[] cut : cuts) {
            OneEyeTwoLegs x = new OneEyeTwoLegs(2, 2);
            feed(x, (String) cut[0]);
            due("end", x.end((Integer) cut[1]), (Integer) cut[1]);
            due("text of the first of \"" + cut[0] + "\"", x.text(), (Integer) cut[2] == 0 ? 0 : NONE);
            due("its fault", x.fault(0), (Integer) cut[2]);
            due("its place", x.fault(1), (Integer) cut[3]);
        }
        OneEyeTwoLegs x = new OneEyeTwoLegs(2, 2);
        read(x, "does 3; fears 1=1;");
        due("a shorter one behind a longer one", read(x, "does 4"), NONE);
        due("its place", x.fault(1), 6);
    }

    private static void noEndOfOthers() {
        sentence(5, "NONE, and nothing is done, if it has not so many, or n is below 0.");
        OneEyeTwoLegs x = new OneEyeTwoLegs(2, 2);
        due("1 of none", x.end(1), NONE);
        feed(x, TURNS_RIGHT);
        int[] others = {21, 22, 300, 301, MAX, -1, -2, MIN};
        for (int o : others) {
            due("end(" + o + ")", x.end(o), NONE);
            due("how many", x.about(9), 20);
        }
        due("the tape is as it was", x.text(), 0);
        due("what it does", x.goes(0, 0, 0), 1);
        for (int k = 0; k < 15; k++) blanks(x);
        due("301 of 300", x.end(301), NONE);
        due("300 of 300", x.end(300), 300);
    }

    private static void tapeIsAText() {
        sentence(6, "The tape (empty then) is a TEXT: its number.");
        OneEyeTwoLegs x = new OneEyeTwoLegs(2, 2);
        for (int k = 0; k < 4; k++) {
            due("text " + k, read(x, "does " + (k + 1) + ";"), k);
            due("the tape is empty then", x.about(9), 0);
            due("texts", x.about(3), k + 1);
        }
        int[] does = {200, 3, 1, 2};
        for (int k = 0; k < 4; k++) due("what " + k + " does", x.goes(k, 0, 0), does[k]);
        OneEyeTwoLegs y = new OneEyeTwoLegs(2, 2);
        due("an empty tape", y.text(), 0);
        due("an empty tape", y.text(), 1);
    }

    private static void faultsAreNoTexts() {
        sentence(6, "NONE: it has a FAULT");
        OneEyeTwoLegs x = new OneEyeTwoLegs(2, 2);
        due("text()", read(x, "does 1"), NONE);
        due("texts", x.about(3), 0);
        due("the tape is empty then", x.about(9), 0);
        due("so this is the empty one", x.text(), 0);
        due("text()", read(x, "!"), NONE);
        due("texts", x.about(3), 1);
        due("a right one", read(x, "does 3;"), 1);
    }

    private static void fourTexts() {
        sentence(6, "or (the tape stays) there are 4.");
        OneEyeTwoLegs x = town("", "", "", "does 3;");
        feed(x, TURNS_RIGHT);
        due("a 5th", x.text(), NONE);
        due("the tape stays", x.about(9), 20);
        due("texts", x.about(3), 4);
        due("a 5th again", x.text(), NONE);
        due("the 4th is as it was", x.goes(3, 0, 0), 1);
        x.end(0);
        due("an empty 5th", x.text(), NONE);
        feed(x, TURNS_RIGHT);
        x.back();
        due("there is room again, and the tape stayed", x.text(), 0);
        due("what it does", x.goes(0, 0, 0), 1);
    }

    private static void latestFault() {
        sentence(7, "Of the latest text that was read: 0 its FAULT (0 without), 1 its place (NONE without).");
        OneEyeTwoLegs x = new OneEyeTwoLegs(2, 2);
        read(x, "does 1");
        due("its fault", x.fault(0), 1);
        due("its place", x.fault(1), 6);
        feed(x, "does 10000;");
        due("it isn't read yet", x.fault(0), 1);
        x.text();
        due("its fault", x.fault(0), 2);
        due("its place", x.fault(1), 5);
        read(x, "does 1;");
        due("without", x.fault(0), 0);
        due("without", x.fault(1), NONE);
        read(x, "!");
        due("its fault", x.fault(0), 1);
        due("its place", x.fault(1), 0);
        for (int k = 1; k < 4; k++) read(x, "");
        due("without", x.fault(0), 0);
        read(x, "does");
        due("a 5th isn't read", x.fault(0), 0);
        due("a 5th isn't read", x.fault(1), NONE);
    }

    private static void noFault() {
        sentence(7, "NONE for others, and ahead of any.");
        OneEyeTwoLegs x = new OneEyeTwoLegs(2, 2);
        int[] all = {0, 1, 2, -1, -2, MIN, MAX};
        for (int what : all) due("ahead of any, " + what, x.fault(what), NONE);
        blanks(x);
        due("none was read yet", x.fault(0), NONE);
        read(x, "does 1");
        for (int what : all) due("others, " + what, x.fault(what), what == 0 ? 1 : what == 1 ? 6 : NONE);
        read(x, "");
        for (int what : all) due("others, " + what, x.fault(what), what == 0 ? 0 : NONE);
    }

    private static void upTo300Bytes() {
        sentence(6, "TEXTS 0 .. 3: of up to 300 bytes.");
        OneEyeTwoLegs x = new OneEyeTwoLegs(2, 2);
        due("the 300th byte is one of it", read(x, "does 3" + repeat(" ", 293) + ";"), 0);
        due("what it does", x.goes(0, 0, 0), 1);
        due("300 bytes of one sum", read(x, "does 11" + repeat("+1-1", 72) + "-0-8;"), 1);
        due("what it does", x.goes(1, 0, 0), 1);
        due("300 bytes of one number", read(x, "does " + repeat("0", 293) + "3;"), 2);
        due("what it does", x.goes(2, 0, 0), 1);
        due("300 bytes without the end", read(x, "does 3" + repeat(" ", 294)), NONE);
        due("its place", x.fault(1), 300);
        due("300 letters", read(x, repeat("a", 300)), NONE);
        due("its place", x.fault(1), 0);
        due("299 blanks", read(x, repeat("\n", 299) + "!"), NONE);
        due("its place", x.fault(1), 299);
    }

    private static void manyTextsOnOneObject() {
        sentence(7, "Of the latest text that was read: 0 its FAULT (0 without), 1 its place (NONE without).");
        OneEyeTwoLegs x = new OneEyeTwoLegs(2, 2);
        String sum = "does 11" + repeat("+1-1", 72) + "-0-8";
        for (int k = 0; k < 9; k++) {
            due("without its end", read(x, sum), NONE);
            due("its place", x.fault(1), 299);
            due("too deep", read(x, "does ((((((((("), NONE);
            due("its fault", x.fault(0), 3);
        }
        for (int k = 0; k < 4; k++) {
            due("with its end", read(x, sum + ";"), k);
            due("what it does", x.goes(k, 0, 0), 1);
        }
    }

    private static void everyByte() {
        sentence(7, "TOKENS, blanks (32, 10) aside");
        String behindANumber = "+-*/;";
        for (char b = 0; b < 256; b++) {
            boolean fits = b == 32 || b == 10 || b >= '0' && b <= '9';
            int place = behindANumber.indexOf(b) >= 0 ? 7 : 6;
            faultOf("does 3" + b + ";", fits ? 0 : 1, fits ? NONE : place);
        }
        isRight(" \n does \n 3 \n ; \n ");
        faultOf("do es 3;", 1, 0);
        faultOf("does 1 2;", 1, 7);
        faultOf("does 1\n2;", 1, 7);
        faultOf("fears 1< =2;", 1, 9);
        faultOf("fears 1>\n=2;", 1, 9);
        faultOf("does ta p;", 1, 5);
    }

    private static void lettersAreOneToken() {
        sentence(7, "letters a .. z, A .. Z one behind the other (one TOKEN)");
        String letters = "azAZmM";
        for (char b : letters.toCharArray()) {
            faultOf("does tap" + b + ";", 1, 5);
            faultOf("does " + b + "tap;", 1, 5);
            faultOf("does 1+" + b + b + ";", 1, 7);
        }
        String others = "@[`{_.'";
        for (char b : others.toCharArray()) {
            faultOf("does tap" + b + ";", 1, 8);
            faultOf("does " + b + "tap;", 1, 5);
        }
        String[] wrongs = {"Tap", "TAP", "taps", "ta", "t", "Heading", "xx", "xy", "X", "Y", "hereahead", "aheads"};
        for (String word : wrongs) faultOf("does " + word + ";", 1, 5);
        String[] heads = {"Does", "DOES", "doe", "doess", "does1", "doesx", "fear", "like", "end"};
        for (String head : heads) faultOf(head + " 1;", 1, head.equals("does1") ? 6 : 0);
        isRight("does1;fears1=1;likes1;");
        isRight("does-x;");
        faultOf("does if 1=1?1:1 ends;", 1, 16);
        faultOf("does iff 1=1?1:1 end;", 1, 5);
        faultOf("fears nott 1=1;", 1, 6);
        faultOf("fears 1=1 ors 1=1;", 1, 10);
        faultOf("fears 1=1 andy=1;", 1, 10);
        isRight("does if not1=1or1=1and1=1?1:1end;");
    }

    private static void digitsAreOneToken() {
        sentence(7, "digits likewise (NUMBERS, 0 .. 9999)");
        isRight("does 0;");
        isRight("does 9;");
        isRight("does 9999;");
        isRight("does 0009999;");
        isRight("does 1/1;");
        faultOf("does 1:1;", 1, 6);
        faultOf("does 10000;", 2, 5);
        faultOf("does 1x;", 1, 6);
        faultOf("does x1;", 1, 6);
        isSo("0123=123", true);
        isSo("9999=10*1000-1", true);
        isSo("1029=1000+29", true);
    }

    private static void theLongestToken() {
        sentence(7, "<= >= < > = # + - * / ( ) ; ? : (the longest)");
        isRight("fears 1<=2;");
        isRight("fears 1>=2;");
        faultOf("fears 1<==2;", 1, 9);
        faultOf("fears 1>==2;", 1, 9);
        faultOf("fears 1=<2;", 1, 8);
        faultOf("fears 1=>2;", 1, 8);
        faultOf("fears 1<>2;", 1, 8);
        faultOf("fears 1<<2;", 1, 8);
        faultOf("fears 1==2;", 1, 8);
        faultOf("fears 1##2;", 1, 8);
        faultOf("fears 1<", 1, 8);
        faultOf("fears 1<=", 1, 9);
        isSo("1<=1", true);
        isSo("1>=1", true);
        isSo("1<1", false);
        isSo("1>1", false);
    }

    private static void eachClauseOnceAtMost() {
        sentence(7, "{CLAUSE}, each once at most: does SUM ; or fears EITHER ; or likes SUM ;.");
        String[] clauses = {"does 1;", "fears 1=1;", "likes 1;"};
        isRight("");
        isRight(" \n");
        for (int a = 0; a < 3; a++) {
            isRight(clauses[a]);
            for (int b = 0; b < 3; b++) {
                if (a == b) continue;
                isRight(clauses[a] + clauses[b]);
                isRight(clauses[a] + clauses[b] + clauses[3 - a - b]);
                faultOf(clauses[a] + clauses[b] + clauses[3 - a - b] + " x", 1, clauses[0].length() + clauses[1].length() + clauses[2].length() + 1);
            }
        }
        faultOf("does;", 1, 4);
        faultOf("fears;", 1, 5);
        faultOf("likes;", 1, 5);
        faultOf("does 1=1;", 1, 6);
        faultOf("likes 1=1;", 1, 7);
        faultOf("fears 1;", 1, 7);
        faultOf(";", 1, 0);
        faultOf("does 1;;", 1, 7);
    }

    private static void sumsAndProducts() {
        sentence(7, "SUM: PRODUCT {+ or - PRODUCT}. PRODUCT: ONE {* or / ONE}.");
        isRight("does 1+2-3*4/5;");
        faultOf("does +1;", 1, 5);
        faultOf("does *1;", 1, 5);
        faultOf("does 1+;", 1, 7);
        faultOf("does 1+*2;", 1, 7);
        faultOf("does 1*/2;", 1, 7);
        faultOf("does 1-+2;", 1, 7);
        isRight("does 1--2;");
        isRight("does 1*-2;");
        isSo("2+3*4=14", true);
        isSo("2*3+4=10", true);
        isSo("20-6/2=17", true);
    }

    private static void onesOfAllKinds() {
        sentence(7, "ONE: NUMBER, NAME, ( SUM ), - ONE, or if EITHER ? SUM : SUM end.");
        isRight("does (1+2)*(3);");
        isRight("does -(1)*-x--if 1=1?1+1:2*2 end/if 1=1?1:2 end;");
        faultOf("does ();", 1, 6);
        faultOf("does (1;", 1, 7);
        faultOf("does 1);", 1, 6);
        faultOf("does (1=1);", 1, 7);
        faultOf("does -;", 1, 6);
        faultOf("does if ?1:2 end;", 1, 8);
        faultOf("does if 1=1 1:2 end;", 1, 12);
        faultOf("does if 1=1?:2 end;", 1, 12);
        faultOf("does if 1=1?1 2 end;", 1, 14);
        faultOf("does if 1=1?1: end;", 1, 15);
        faultOf("does if 1=1?1:2;", 1, 15);
        faultOf("does if 1?1:2 end;", 1, 9);
        faultOf("does 1 end;", 1, 7);
        isSo("-2*3=-6", true);
        isSo("-2-3=-5", true);
        isSo("-(2-3)=1", true);
        isSo("-if 1=1?2:3 end=-2", true);
    }

    private static void asksOfAllKinds() {
        sentence(7, "EITHER: BOTH {or BOTH}. BOTH: ASK {and ASK}. ASK: not ASK, or SUM one of < <= > >= = # (unlike) SUM.");
        faultOf("fears not;", 1, 9);
        faultOf("fears 1=1 or;", 1, 12);
        faultOf("fears 1=1 and;", 1, 13);
        faultOf("fears or 1=1;", 1, 6);
        faultOf("fears and 1=1;", 1, 6);
        faultOf("fears 1=1 not 1=1;", 1, 10);
        faultOf("fears (1=1);", 1, 8);
        faultOf("fears (1=1 or 1=1);", 1, 8);
        faultOf("fears 1=1=1;", 1, 9);
        faultOf("fears not 1;", 1, 11);
        String[] so = {"1<2", "1<=2", "2<=2", "2>1", "2>=1", "2>=2", "2=2", "1#2", "-1<0", "-2<-1", "not 1=2", "not not 1=1"};
        String[] not = {"2<2", "3<2", "3<=2", "2>2", "1>2", "1>=2", "1=2", "2#2", "0<-1", "not 1=1", "not not 1=2"};
        for (String either : so) {
            isSo(either, true);
            for (String another : so) isSo(either + " and " + another, true);
        }
        for (String either : not) {
            isSo(either, false);
            for (String another : not) isSo(either + " or " + another, false);
        }
        // and binds more than or, not more than both
        isSo("1=1 or 1=1 and 1=2", true);
        isSo("1=2 and 1=1 or 1=1", true);
        isSo("1=1 or 1=2 and 1=2", true);
        isSo("not 1=1 and 1=2", false);
        isSo("not 1=2 or 1=1", true);
        isSo("not 1=1 or 1=1", true);
        isSo("not 1=2 and 1=2", false);
    }

    private static void namesOfClauses() {
        sentence(7, "NAMES: of does and fears: tap, heading, x, y, here (the KIND of his cell), ahead (of the cell ahead; 1 of none); of likes: rider, carrier, sight, pace, asks (0 the rider, 1 the carrier).");
        for (String name : OF_DEEDS) {
            isRight("does " + name + ";");
            isRight("fears " + name + "=1;");
            faultOf("likes " + name + ";", 5, 6);
        }
        for (String name : OF_LIKES) {
            isRight("likes " + name + ";");
            faultOf("does " + name + ";", 5, 5);
            faultOf("fears " + name + "=1;", 5, 6);
        }
        String[] words = {"does", "fears", "likes", "end", "or", "and", "not"};
        for (String word : words) faultOf("does " + word + ";", 1, 5);
        isSo("tap=3 and heading=1 and x=0 and y=0 and here=0 and ahead=0", true);
    }

    private static void fromTheLeft() {
        sentence(8, "From the left");
        isSo("10-3-2=5", true);
        isSo("10-3+2=9", true);
        isSo("100/10/5=2", true);
        isSo("7/2*2=6", true);
        isSo("2*7/4=3", true);
    }

    private static void divisions() {
        sentence(8, "/ cuts towards 0, by 0 it is 0");
        String[] so = {"7/2=3", "-7/2=-3", "7/-2=-3", "-7/-2=3", "1/2=0", "-1/2=0", "1/-2=0", "0/5=0", "5/0=0", "-5/0=0", "0/0=0",
            "1000*1000/0=0", "5/(1-1)=0", "6/3=2", "-6/3=-2", "5/0+1=1", "1000*1000/-1=-1000*1000", "-1000*1000/-1=1000*1000"};
        for (String either : so) isSo(either, true);
    }

    private static void heldAtEachStep() {
        sentence(8, "what is above 1000000 (below the same less) is that, at each step");
        String[] so = {"1000*1000-1=999*1000+999", "1000*1000-1<1000*1000", "1000*1000+1=1000*1000", "1000*1000+1-1=999*1000+999",
            "1001*1000-1=999*1000+999", "9999*9999=1000*1000", "9999*9999/9999=100", "0-1000*1000-1=-1000*1000",
            "0-1000*1000-1+1=-999*1000-999", "-9999*9999=-1000*1000", "9999*-9999=-1000*1000", "-(9999*9999)=-1000*1000",
            "1000*1000*(1000*1000)=1000*1000", "-1000*1000*(1000*1000)=-1000*1000", "1000*1000*-(1000*1000)=-1000*1000",
            "-1000*1000*-(1000*1000)=1000*1000", "1000*1000+1000*1000=1000*1000", "0-1000*1000-1000*1000=-1000*1000",
            "1000*1000+1000*1000-1000*1000=0", "9999*9999-9999*9999=0", "1000*1000*2/2=1000*500", "1000*1000*10/10=100*1000",
            "1000*1000#1000*1000-1", "999*1000+999+1=1000*1000", "999*1000+999+2=1000*1000", "-999*1000-999-2=-1000*1000"};
        for (String either : so) isSo(either, true);
        OneEyeTwoLegs x = town("likes 1000*1000+carrier;", "likes 1000*1000-10+carrier;", "likes -1000*1000-10+carrier;");
        x.rider(0);
        for (int k = 0; k < 3; k++) x.carrier(k);
        due("all are liked alike", x.wed(0, 0, 0), 0);
        due("the last is liked most", x.wed(1, 0, 0), 2);
        due("held ahead of the last step", x.wed(2, 0, 0), 2);
    }

    private static void bothSides() {
        sentence(8, "or and and look at both sides always");
        String[] ways = {"1=2", "1=1"};
        for (int a = 0; a < 2; a++) {
            for (int b = 0; b < 2; b++) {
                isSo(ways[a] + " or " + ways[b], a + b > 0);
                isSo(ways[a] + " and " + ways[b], a + b == 2);
                for (int c = 0; c < 2; c++) {
                    isSo(ways[a] + " or " + ways[b] + " or " + ways[c], a + b + c > 0);
                    isSo(ways[a] + " and " + ways[b] + " and " + ways[c], a + b + c == 3);
                }
            }
        }
    }

    private static void theChosenSum() {
        sentence(8, "of if just the SUM that is chosen is worked");
        isSo("if 1=1?2:3 end=2", true);
        isSo("if 1=2?2:3 end=3", true);
        isSo("if 1=1?if 1=2?5:6 end:7 end*2=12", true);
        isSo("if 1=2?7:if 1=1?5:6 end end*2=10", true);
        isSo("1+if 1=1?2:9999*9999 end*3=7", true);
        isSo("if if 1=1?1:2 end=1?if 1=2?3:4 end:5 end=4", true);
    }

    private static void firstAsTokensCome() {
        sentence(7, "FAULTS, the first as TOKENS are come to, at the TOKEN's first byte");
        faultOf("does carrier 10000;", 5, 5);
        faultOf("does 10000 carrier;", 2, 5);
        faultOf("does 1;does 10000;", 4, 7);
        faultOf("does rider;does 1;", 5, 5);
        faultOf("does 1!10000;", 1, 6);
        faultOf("does 10000!", 2, 5);
        faultOf("does ((((((((10000(", 2, 13);
        faultOf("does (((((((((10000", 3, 13);
        faultOf("does 1+ahead+goes;", 1, 13);
        faultOf("\n\n does 12345;", 2, 8);
    }

    private static void ofTheEndAtTheLength() {
        sentence(7, "(of the end at the length)");
        String[] open = {"does", "does ", "does 1", "does 1 ", "does 1\n\n", "does (", "does (1", "does -", "does if", "does if 1=1", "does if 1=1?1",
            "does if 1=1?1:2", "does if 1=1?1:2 end", "fears", "fears 1", "fears 1=", "fears 1=1", "fears not", "fears 1=1 or", "fears 1=1 and",
            "likes", "likes 1*", "does 1;fears", "does 1;\n likes 2+  "};
        for (String text : open) faultOf(text, 1, text.length());
        faultOf("does 1" + repeat(" ", 294), 1, 300);
    }

    private static void ofOneTheLeast() {
        sentence(7, "of one the least");
        // 1 ahead of 2
        faultOf("10000", 1, 0);
        faultOf("does 1 10000;", 1, 7);
        faultOf("does (1)10000;", 1, 8);
        // 1 ahead of 3: the 9th that can't stand there
        faultOf("does ((((((((not 1=1", 1, 13);
        faultOf("does ((((((((1(", 1, 14);
        faultOf("fears not not not not not not not not 1 not", 1, 40);
        faultOf("does ((((((((1 if", 1, 15);
        // 1 ahead of 4
        faultOf("does 1;fears does", 1, 13);
        faultOf("does does", 1, 5);
        faultOf("does 1 does", 1, 7);
        // 1 ahead of 5
        faultOf("rider", 1, 0);
        faultOf("does 1 rider;", 1, 7);
        faultOf("likes 1 tap;", 1, 8);
        faultOf("does 1;rider", 1, 7);
    }

    private static void cannotStandOrIsNone() {
        sentence(7, "1 it can't stand there, or is none.");
        faultOf("goes 1;", 1, 0);
        faultOf("1", 1, 0);
        faultOf("tap;", 1, 0);
        faultOf("does goes;", 1, 5);
        faultOf("does 1!;", 1, 6);
        faultOf("does !;", 1, 5);
        faultOf("!does 1;", 1, 0);
        faultOf("does 1;!", 1, 7);
        faultOf("does 1;" + (char) 0, 1, 7);
        faultOf("does 1;" + (char) 255, 1, 7);
        faultOf("does 1 & 1;", 1, 7);
        faultOf("does 1.5;", 1, 6);
    }

    private static void numbersAbove9999() {
        sentence(7, "2 a NUMBER above 9999.");
        isRight("does 9998;");
        isRight("does 9999;");
        isRight("does " + repeat("0", 200) + "9999;");
        String[] above = {"10000", "10001", "99999", "0010000", "65536", "2147483648", "4294967296", "4294967297", "18446744073709551616",
            "99999999999999999999999", repeat("9", 200), repeat("0", 100) + "10000", "100000000000000000000000000000000"};
        for (String number : above) {
            faultOf("does " + number + ";", 2, 5);
            faultOf("does 9999+" + number + ";", 2, 10);
            faultOf("likes " + number + ";", 2, 6);
        }
    }

    private static void theNinthOpen() {
        sentence(7, "3 the 9th of ( not if and - (of one ONE) that are open around one another (at it).");
        for (int open = 7; open <= 9; open++) {
            boolean fits = open <= 8;
            faultOf("does " + repeat("(", open) + "1" + repeat(")", open) + ";", fits ? 0 : 3, fits ? NONE : 13);
            faultOf("does " + repeat("-", open) + "1;", fits ? 0 : 3, fits ? NONE : 13);
            faultOf("fears " + repeat("not ", open) + "1=1;", fits ? 0 : 3, fits ? NONE : 38);
            faultOf("does " + repeat("if 1=1?", open) + "1" + repeat(":2 end", open) + ";", fits ? 0 : 3, fits ? NONE : 61);
            faultOf("does " + repeat("if 1=1?1:", open) + "1" + repeat(" end", open) + ";", fits ? 0 : 3, fits ? NONE : 77);
            faultOf("does " + repeat("if ", open) + "1" + repeat("=1?1:2 end", open) + ";", fits ? 0 : 3, fits ? NONE : 29);
            faultOf("likes " + repeat("(", open) + "1" + repeat(")", open) + ";", fits ? 0 : 3, fits ? NONE : 14);
        }
        // all kinds of them together
        faultOf("fears not if not if (-(-1))=1?1:2 end=1?1:2 end=1;", 0, NONE);
        faultOf("fears not if not if (-(-(1)))=1?1:2 end=1?1:2 end=1;", 3, 24);
        faultOf("fears not if not if (-(--1))=1?1:2 end=1?1:2 end=1;", 3, 24);
    }

    private static void closedOnesDoNotCount() {
        sentence(7, "3 the 9th of ( not if and - (of one ONE) that are open around one another (at it).");
        isRight("does (1)" + repeat("+(1)", 20) + ";");
        isRight("does -1" + repeat("*-1", 20) + ";");
        isRight("does 1" + repeat("-1", 20) + ";");
        isRight("does 1" + repeat("--1", 20) + ";");
        isRight("does if 1=1?1:1 end" + repeat("+if 1=1?1:1 end", 10) + ";");
        isRight("fears not 1=1" + repeat(" and not 1=1", 10) + ";");
        isRight("fears not 1=1" + repeat(" or not 1=1", 10) + ";");
        isRight("does (((((((1)+(1))*(1)-1)/(1)))--1))+((((((((1))))))));");
        isRight("does -------1+(-------1)-(-------1);");
        // the - of one ONE ends with it: behind -1 there is room for an eighth again, within it there is none
        isRight("does (((((((-1+(1))))))));");
        isRight("does (((((((1+-1*(1))))))));");
        faultOf("does (((((((-(1))))))));", 3, 13);
        faultOf("does (((((((--1))))))));", 3, 13);
        faultOf("does (((((((1-((1))))))))));", 3, 15);
        isRight("does 1;fears not not not not not not not not 1=1;likes --------1;");
        isRight("fears not not not not not not not not 1=1 and not not not not not not not not 1=1;");
        faultOf("fears not not not not not not not not 1=-1;", 3, 40);
        isRight("fears not not not not not not not not 1=1 and -1=(1);");
    }

    private static void aClauseThatWasThere() {
        sentence(7, "4 a CLAUSE that was there (at its first TOKEN).");
        faultOf("does 1;does 2;", 4, 7);
        faultOf("fears 1=1;fears 1=1;", 4, 10);
        faultOf("likes 1;likes 1;", 4, 8);
        faultOf("does 1;\n does", 4, 9);
        faultOf("does 1;fears 1=1;does 1;", 4, 17);
        faultOf("does 1;fears 1=1;likes 1;does", 4, 25);
        faultOf("does 1;fears 1=1;likes 1;fears", 4, 25);
        faultOf("does 1;fears 1=1;likes 1;likes", 4, 25);
    }

    private static void aNameOfAnotherClause() {
        sentence(7, "5 a NAME that isn't of that CLAUSE (at it).");
        faultOf("does 1+rider;", 5, 7);
        faultOf("does (carrier);", 5, 6);
        faultOf("does if sight=1?1:2 end;", 5, 8);
        faultOf("does if 1=1?pace:2 end;", 5, 12);
        faultOf("fears not 1=asks;", 5, 12);
        faultOf("likes rider+tap;", 5, 12);
        faultOf("likes if x=1?1:2 end;", 5, 9);
        faultOf("likes 1;does 1+sight;", 5, 15);
        faultOf("does 1;likes -y;", 5, 14);
        faultOf("likes sight;fears here=1;does 1;", 0, NONE);
    }

    public static void main(String[] args) {
        bytesInOrder();
        highBytes();
        atMost300();
        firstBytesAlone();
        nothingBehindTheFirstBytes();
        noEndOfOthers();
        tapeIsAText();
        faultsAreNoTexts();
        fourTexts();
        latestFault();
        noFault();
        upTo300Bytes();
        manyTextsOnOneObject();
        everyByte();
        lettersAreOneToken();
        digitsAreOneToken();
        theLongestToken();
        eachClauseOnceAtMost();
        sumsAndProducts();
        onesOfAllKinds();
        asksOfAllKinds();
        namesOfClauses();
        fromTheLeft();
        divisions();
        heldAtEachStep();
        bothSides();
        theChosenSum();
        firstAsTokensCome();
        ofTheEndAtTheLength();
        ofOneTheLeast();
        cannotStandOrIsNone();
        numbersAbove9999();
        theNinthOpen();
        closedOnesDoNotCount();
        aClauseThatWasThere();
        aNameOfAnotherClause();
        endOf("TextBoundsTest");
    }
}
