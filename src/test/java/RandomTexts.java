import java.util.Random;

/** Texts at random: from the grammar, some of them spoilt, and some habits that come around. */
final class RandomTexts {
    private static final String[] HABITS = {
        "", "does tap+1;", "does if tap=0?1:if tap=1?3:if tap=2?2:4 end end end;",
        "fears ahead=3;", "fears here=2 and tap=0;", "does if here=3?2:tap end;", "does 0;", "does 1;",
        "does if tap=3?1:tap end;", "does if x=y?1:if tap=0?1:tap+1 end end;",
        "does (tap+heading)/2;", "does 4-tap;fears not ahead#1 or heading=2 and tap>1;",
        "likes sight*rider-pace*carrier*asks;", "likes if asks=0?pace-carrier*3:sight*sight-rider end;",
        "likes (sight*7+pace*5+rider*carrier*11)/3*(1-2*asks);", "likes -pace-sight;", "likes rider*carrier-asks*7;",
        "does if tap<=1?1:tap end;likes (rider+carrier*2+asks)*(rider+carrier*2+asks)-sight*5;",
    };
    private static final String[] WAYS = {"tap", "heading", "x", "y", "here", "ahead"};
    private static final String[] LIKINGS = {"rider", "carrier", "sight", "pace", "asks"};
    private static final String[] COMPARED = {"<", "<=", ">", ">=", "=", "#"};
    private static final String SPOILERS = "abtyxT019 \n<>=#+-*/();?:!@\u00e9\u0000if";
    private final Random random;

    RandomTexts(Random random) {
        this.random = random;
    }

    String next() {
        int kind = random.nextInt(10);
        if (kind < 4) return HABITS[random.nextInt(HABITS.length)];
        StringBuilder text = new StringBuilder();
        if (kind == 4) {
            text.append(deep());
        } else {
            int order = random.nextInt(6);
            String[] clauses = {"does " + sum(4, WAYS) + ";", "fears " + either(4, WAYS) + ";", "likes " + sum(4, LIKINGS) + ";"};
            for (int k = 0; k < 3; k++) {
                if (random.nextInt(3) > 0) text.append(clauses[(k * (order % 2 + 1) + order / 2) % 3]).append(blank());
            }
        }
        while (random.nextInt(5) == 0 && text.length() > 0) spoil(text);
        return text.length() > 300 ? text.substring(0, 300) : text.toString();
    }

    private String deep() {
        StringBuilder text = new StringBuilder(random.nextBoolean() ? "fears " : "does ");
        boolean isAsk = text.charAt(0) == 'f';
        StringBuilder ends = new StringBuilder();
        int depth = 6 + random.nextInt(5);
        for (int k = 0; k < depth; k++) {
            if (isAsk && random.nextInt(2) == 0) {
                text.append("not ");
            } else {
                if (isAsk) ends.insert(0, "=1");
                int how = random.nextInt(4);
                isAsk = how == 2;
                text.append(how == 0 ? "(" : how == 1 ? "-" : how == 2 ? "if " : "1+if 1=1?1:");
                ends.insert(0, how == 0 ? ")" : how == 1 ? "" : how == 2 ? "?1:2 end" : " end");
            }
        }
        text.append(isAsk ? "tap=1" : "tap").append(ends).append(";");
        return text.toString();
    }

    private void spoil(StringBuilder text) {
        int at = random.nextInt(text.length());
        char sign = SPOILERS.charAt(random.nextInt(SPOILERS.length()));
        int how = random.nextInt(4);
        if (how == 0) text.deleteCharAt(at);
        else if (how == 1) text.insert(at, sign);
        else if (how == 2) text.setCharAt(at, sign);
        else text.setLength(at);
    }

    private String blank() {
        return random.nextInt(4) == 0 ? " " : random.nextInt(8) == 0 ? "\n" : "";
    }

    private String sum(int depth, String[] names) {
        StringBuilder s = new StringBuilder(product(depth, names));
        while (random.nextInt(3) == 0) s.append(random.nextBoolean() ? "+" : "-").append(blank()).append(product(depth - 1, names));
        return s.toString();
    }

    private String product(int depth, String[] names) {
        StringBuilder s = new StringBuilder(one(depth, names));
        while (random.nextInt(4) == 0) s.append(random.nextBoolean() ? "*" : "/").append(blank()).append(one(depth - 1, names));
        return s.toString();
    }

    private String one(int depth, String[] names) {
        int how = random.nextInt(depth > 0 ? 9 : 4);
        if (how == 0) return number();
        if (how <= 3) return names[random.nextInt(names.length)] + blank();
        if (how <= 5) return "(" + blank() + sum(depth - 1, names) + ")";
        if (how == 6) return "-" + blank() + one(depth - 1, names);
        return "if " + either(depth - 1, names) + "?" + sum(depth - 1, names) + ":" + sum(depth - 1, names) + " end";
    }

    private String number() {
        int how = random.nextInt(12);
        if (how == 0) return "9999";
        if (how == 1) return random.nextInt(4) == 0 ? "10000" : "0000000000012";
        if (how == 2) return random.nextInt(4) == 0 ? "99999999999999999999" : "1000";
        return Integer.toString(random.nextInt(6));
    }

    private String either(int depth, String[] names) {
        StringBuilder s = new StringBuilder(both(depth, names));
        while (random.nextInt(4) == 0) s.append(" or ").append(both(depth - 1, names));
        return s.toString();
    }

    private String both(int depth, String[] names) {
        StringBuilder s = new StringBuilder(ask(depth, names));
        while (random.nextInt(4) == 0) s.append(" and ").append(ask(depth - 1, names));
        return s.toString();
    }

    private String ask(int depth, String[] names) {
        if (depth > 0 && random.nextInt(5) == 0) return "not " + ask(depth - 1, names);
        return sum(depth - 1, names) + COMPARED[random.nextInt(6)] + sum(depth - 1, names);
    }
}
