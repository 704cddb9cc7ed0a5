import java.math.BigInteger;
import java.util.ArrayList;
import java.util.Arrays;
import java.util.LinkedHashMap;
import java.util.LinkedList;
import java.util.List;
import java.util.Map;

/**
 * The document once more, written as slowly and plainly as can be and by other ways than the class:
 * trees instead of orders, all hearings one by one, all weddings one by one, a chase turn by turn.
 */
final class PlainModel {
    static final class Town {
        int[] kinds;
        List<int[]> pairs = new ArrayList<>();
        List<PlainText> texts = new ArrayList<>();
        List<Integer> row = new ArrayList<>();
        LinkedList<int[]> steps = new LinkedList<>();
        List<int[]> seen = new ArrayList<>();
        List<Integer> riders = new ArrayList<>();
        List<Integer> carriers = new ArrayList<>();

        Town copy() {
            Town t = new Town();
            t.kinds = kinds.clone();
            for (int[] p : pairs) t.pairs.add(p.clone());
            t.texts.addAll(texts);
            t.row.addAll(row);
            for (int[] s : steps) t.steps.add(s.clone());
            for (int[] s : seen) t.seen.add(s.clone());
            t.riders.addAll(riders);
            t.carriers.addAll(carriers);
            return t;
        }
    }

    final int w;
    final int h;
    private Town now = new Town();
    private Town kept;
    private final List<Integer> tape = new ArrayList<>();
    private int fault = -1;
    private int faultPlace = -1;

    PlainModel(int w, int h) {
        this.w = w < 2 ? 2 : w > 5 ? 5 : w;
        this.h = h < 2 ? 2 : h > 5 ? 5 : h;
        now.kinds = new int[this.w * this.h];
        kept = now.copy();
    }

    private boolean cellOk(int p) { return p >= 0 && p < w * h; }
    private boolean poseOk(int p) { return p >= 0 && p < 4 * w * h && now.kinds[p / 4] != 1; }
    private boolean tapOk(int t) { return t >= 0 && t <= 3; }
    private boolean textOk(int t) { return t >= 0 && t < now.texts.size(); }
    private boolean pairOk(int p) { return p >= 0 && p < now.pairs.size(); }

    boolean cell(int p, int kind) {
        if (!cellOk(p) || kind < 0 || kind > 3) return false;
        if (kind == 1) for (int[] pair : now.pairs) if (pair[0] / 4 == p) return false;
        now.kinds[p] = kind;
        now.steps.clear();
        return true;
    }

    int pair(int pose, int habit) {
        if (!poseOk(pose) || !textOk(habit) || now.pairs.size() == 6) return -1;
        now.pairs.add(new int[] {pose, habit});
        return now.pairs.size() - 1;
    }

    int feed(int... words) {
        if (tape.size() + 20 > 300) return -1;
        for (int word : words) {
            for (byte b : BigInteger.valueOf(word & 0xffffffffL | 1L << 32).toByteArray()) tape.add(b & 255);
            tape.remove(tape.size() - 5);
        }
        return tape.size();
    }

    int end(int n) {
        if (n < 0 || n > tape.size()) return -1;
        while (tape.size() > n) tape.remove(tape.size() - 1);
        return n;
    }

    int text() {
        if (now.texts.size() == 4) return -1;
        PlainText text = new PlainText(tape);
        tape.clear();
        fault = text.fault;
        faultPlace = text.place;
        if (fault != 0) return -1;
        now.texts.add(text);
        return now.texts.size() - 1;
    }

    int fault(int what) {
        return what == 0 ? fault : what == 1 ? faultPlace : -1;
    }

    private int kindAt(int x, int y) {
        return x < 0 || y < 0 || x >= w || y >= h ? 1 : now.kinds[x + w * y];
    }

    private int step(int habit, int pose, int tap) {
        int heading = pose % 4;
        int x = pose / 4 % w;
        int y = pose / 4 / w;
        int ax = x + (heading == 1 ? 1 : heading == 3 ? -1 : 0);
        int ay = y + (heading == 2 ? 1 : heading == 0 ? -1 : 0);
        Map<String, Long> env = new LinkedHashMap<>();
        env.put("tap", (long) tap);
        env.put("heading", (long) heading);
        env.put("x", (long) x);
        env.put("y", (long) y);
        env.put("here", (long) kindAt(x, y));
        env.put("ahead", (long) kindAt(ax, ay));
        PlainText text = now.texts.get(habit);
        if (text.fears != null && text.fears.work(env) == 1) return 400 + pose;
        long deed = text.does == null ? new int[] {1, 2, 3, 0}[tap] : text.does.work(env);
        if (deed <= 0) return pose;
        if (deed == 1) return kindAt(ax, ay) == 1 ? 200 + pose : 4 * (ax + w * ay) + heading;
        int turn = deed == 2 ? 3 : deed == 3 ? 1 : 2;
        return pose - heading + (heading + turn) % 4;
    }

    private int after(int habit, int pose, int tap) {
        return step(habit, pose, tap) % 200;
    }

    int goes(int habit, int pose, int tap) {
        return textOk(habit) && poseOk(pose) && tapOk(tap) ? step(habit, pose, tap) : -1;
    }

    private void keepStep(int pair) {
        now.steps.addLast(new int[] {pair, now.pairs.get(pair)[0]});
        if (now.steps.size() == 31) now.steps.removeFirst();
    }

    int tap(int pair, int tap) {
        if (!pairOk(pair) || !tapOk(tap)) return -1;
        keepStep(pair);
        int[] p = now.pairs.get(pair);
        int answer = step(p[1], p[0], tap);
        p[0] = answer % 200;
        return answer;
    }

    int row(int tap) {
        if (tap == -1) now.row.clear();
        else if (!tapOk(tap) || now.row.size() == 16) return -1;
        else now.row.add(tap);
        return now.row.size();
    }

    int walk(int pair) {
        if (!pairOk(pair)) return -1;
        keepStep(pair);
        int[] p = now.pairs.get(pair);
        int bumps = 0;
        for (int tap : now.row) {
            int answer = step(p[1], p[0], tap);
            if (answer / 200 == 1) bumps++;
            p[0] = answer % 200;
        }
        return bumps;
    }

    int undo() {
        if (now.steps.isEmpty()) return -1;
        int[] step = now.steps.removeLast();
        now.pairs.get(step[0])[0] = step[1];
        return step[0];
    }

    int of(int pair, int what) {
        return pairOk(pair) && what >= 0 && what <= 1 ? now.pairs.get(pair)[what] : -1;
    }

    int fewest(int texts, int pose, int cell, int i) {
        if (texts <= 0 || texts >= 1 << now.texts.size() || Integer.bitCount(texts) > 3) return -1;
        if (!poseOk(pose) || !cellOk(cell) || i < -1) return -1;
        List<Integer> habits = new ArrayList<>();
        for (int t = 0; t < 4; t++) if ((texts & 1 << t) != 0) habits.add(t);
        return answer(seek(habits, pose, cell), i);
    }

    int tells(int one, int other, int pose, int i) {
        if (!textOk(one) || !textOk(other) || !poseOk(pose) || i < -1) return -1;
        return answer(seek(Arrays.asList(one, other), pose, -1), i);
    }

    private int answer(String taps, int i) {
        if (taps == null) return -1;
        if (taps.equals("spent")) return -2;
        if (i == -1) return taps.length();
        return i < taps.length() ? taps.charAt(i) - '0' : -1;
    }

    private boolean isThere(List<Integer> poses, int cell) {
        boolean all = true;
        boolean alike = true;
        for (int p : poses) {
            all &= p / 4 == cell;
            alike &= p == poses.get(0);
        }
        return cell == -1 ? !alike : all;
    }

    private String seek(List<Integer> habits, int pose, int cell) {
        Map<List<Integer>, String> ways = new LinkedHashMap<>();
        List<Integer> start = new ArrayList<>();
        for (int k = 0; k < habits.size(); k++) start.add(pose);
        ways.put(start, "");
        if (isThere(start, cell)) return "";
        LinkedList<List<Integer>> queue = new LinkedList<>();
        queue.add(start);
        while (!queue.isEmpty()) {
            List<Integer> poses = queue.removeFirst();
            for (int tap = 0; tap < 4; tap++) {
                List<Integer> then = new ArrayList<>();
                for (int k = 0; k < habits.size(); k++) then.add(after(habits.get(k), poses.get(k), tap));
                if (ways.containsKey(then)) continue;
                if (ways.size() == 3000) return "spent";
                String way = ways.get(poses) + tap;
                ways.put(then, way);
                if (isThere(then, cell)) return way;
                queue.addLast(then);
            }
        }
        return null;
    }

    long odds(int habit, int pose, int cell, int m, int what) {
        if (!textOk(habit) || !poseOk(pose) || !cellOk(cell) || m < 0 || m > 10) return -1;
        if (what < 0 || what > 1 || now.row.size() > 12) return -1;
        int n = now.row.size();
        BigInteger upper = BigInteger.ZERO;
        for (int misheard = 0; misheard < 1 << n; misheard++) {
            int at = pose;
            for (int k = 0; k < n; k++) at = after(habit, at, (now.row.get(k) + (misheard >> k & 1)) % 4);
            int missed = Integer.bitCount(misheard);
            BigInteger weight = BigInteger.valueOf(m).pow(missed).multiply(BigInteger.valueOf(10 - m).pow(n - missed));
            if (at / 4 == cell) upper = upper.add(weight);
        }
        BigInteger lower = BigInteger.TEN.pow(n);
        BigInteger common = upper.gcd(lower);
        return (what == 0 ? upper : lower).divide(common).longValueExact();
    }

    int seen(int pose, int tap, int then) {
        if (!poseOk(pose) || !tapOk(tap) || !poseOk(then) || now.seen.size() == 20) return -1;
        now.seen.add(new int[] {pose, tap, then});
        return now.seen.size();
    }

    int holds() {
        int bits = 0;
        for (int t = 0; t < now.texts.size(); t++) {
            boolean all = true;
            for (int[] s : now.seen) all &= poseOk(s[0]) && poseOk(s[2]) && after(t, s[0], s[1]) == s[2];
            if (all) bits += 1 << t;
        }
        return bits;
    }

    int dark(int habit, int bumps, int i) {
        if (!textOk(habit) || i < -1 || bumps < 0 || bumps >= 1 << now.row.size()) return -1;
        List<Integer> starts = new ArrayList<>();
        for (int pose = 0; pose < 4 * w * h; pose++) {
            if (!poseOk(pose)) continue;
            int at = pose;
            int got = 0;
            for (int k = 0; k < now.row.size(); k++) {
                int answer = step(habit, at, now.row.get(k));
                if (answer / 200 == 1) got += 1 << k;
                at = answer % 200;
            }
            if (got == bumps) starts.add(pose);
        }
        return i == -1 ? starts.size() : i < starts.size() ? starts.get(i) : -1;
    }

    int rider(int sight) {
        if (sight < 0 || sight > 9 || now.riders.size() == 6) return -1;
        now.riders.add(sight);
        return now.riders.size();
    }

    int carrier(int pace) {
        if (pace < 0 || pace > 9 || now.carriers.size() == 6) return -1;
        now.carriers.add(pace);
        return now.carriers.size();
    }

    /** The place of another in one's liking, 0 the best. */
    private int[] ranks(int text, int who, int one) {
        int n = who == 0 ? now.carriers.size() : now.riders.size();
        long[] likes = new long[n];
        for (int other = 0; other < n; other++) {
            int r = who == 0 ? one : other;
            int c = who == 0 ? other : one;
            Map<String, Long> env = new LinkedHashMap<>();
            env.put("rider", (long) r);
            env.put("carrier", (long) c);
            env.put("sight", (long) now.riders.get(r));
            env.put("pace", (long) now.carriers.get(c));
            env.put("asks", (long) who);
            PlainText t = now.texts.get(text);
            likes[other] = t.likes == null ? 0 : t.likes.work(env);
        }
        int[] rank = new int[n];
        for (int a = 0; a < n; a++) {
            for (int b = 0; b < n; b++) if (likes[b] > likes[a] || likes[b] == likes[a] && b < a) rank[a]++;
        }
        return rank;
    }

    /** Of all weddings that none would leave, the one in which the rider (side 0) or his carriers do best. */
    int wed(int text, int side, int rider) {
        if (!textOk(text) || side < 0 || side > 1 || rider < 0 || rider >= now.riders.size()) return -1;
        int n = now.riders.size();
        int m = now.carriers.size();
        int[][] ofRiders = new int[n][];
        int[][] ofCarriers = new int[m][];
        for (int r = 0; r < n; r++) ofRiders[r] = ranks(text, 0, r);
        for (int c = 0; c < m; c++) ofCarriers[c] = ranks(text, 1, c);
        List<int[]> stable = new ArrayList<>();
        int[] has = new int[n];
        Arrays.fill(has, -1);
        allWeddings(0, has, new boolean[m], ofRiders, ofCarriers, stable);
        int[] best = null;
        long bestSum = Long.MAX_VALUE;
        for (int[] one : stable) {
            long sum = 0;
            for (int r = 0; r < n; r++) {
                if (one[r] >= 0) sum += side == 0 ? ofRiders[r][one[r]] : ofCarriers[one[r]][r];
            }
            if (sum < bestSum) {
                bestSum = sum;
                best = one;
            }
        }
        if (best == null) throw new IllegalStateException("no wedding is stable");
        return best[rider];
    }

    private void allWeddings(int r, int[] has, boolean[] taken, int[][] ofRiders, int[][] ofCarriers, List<int[]> stable) {
        if (r == has.length) {
            if (isStable(has, ofRiders, ofCarriers)) stable.add(has.clone());
            return;
        }
        allWeddings(r + 1, has, taken, ofRiders, ofCarriers, stable);
        for (int c = 0; c < taken.length; c++) {
            if (taken[c]) continue;
            taken[c] = true;
            has[r] = c;
            allWeddings(r + 1, has, taken, ofRiders, ofCarriers, stable);
            has[r] = -1;
            taken[c] = false;
        }
    }

    private boolean isStable(int[] has, int[][] ofRiders, int[][] ofCarriers) {
        int[] of = new int[ofCarriers.length];
        Arrays.fill(of, -1);
        for (int r = 0; r < has.length; r++) if (has[r] >= 0) of[has[r]] = r;
        for (int r = 0; r < has.length; r++) {
            for (int c = 0; c < of.length; c++) {
                boolean riderWould = has[r] < 0 || ofRiders[r][c] < ofRiders[r][has[r]];
                boolean carrierWould = of[c] < 0 || ofCarriers[c][r] < ofCarriers[c][of[c]];
                if (riderWould && carrierWould) return false;
            }
        }
        return true;
    }

    int crowd(int home) {
        if (!cellOk(home)) return -1;
        Map<Integer, Integer> out = new LinkedHashMap<>();
        for (int p = 0; p < now.pairs.size(); p++) {
            if (now.pairs.get(p)[0] / 4 != home) out.put(p, now.pairs.get(p)[0]);
        }
        if (out.isEmpty()) return 0;
        if (now.row.isEmpty()) return -1;
        for (int round = 1; round <= 200; round++) {
            for (int p = 0; p < now.pairs.size(); p++) {
                if (!out.containsKey(p)) continue;
                int at = out.get(p);
                int then = after(now.pairs.get(p)[1], at, now.row.get((round - 1) % now.row.size()));
                boolean hindered = false;
                for (int q : out.keySet()) hindered |= q != p && then / 4 != at / 4 && out.get(q) / 4 == then / 4;
                if (hindered) continue;
                if (then / 4 == home) out.remove(p);
                else out.put(p, then);
            }
            if (out.isEmpty()) return round;
        }
        return -1;
    }

    int chase(int habit, int pose, int thiefs, int thief) {
        if (!textOk(habit) || !poseOk(pose) || !textOk(thiefs) || !poseOk(thief)) return -1;
        return settled(habit, pose, thiefs, thief)[0];
    }

    int hunt(int habit, int pose, int thiefs, int thief) {
        if (!textOk(habit) || !poseOk(pose) || !textOk(thiefs) || !poseOk(thief)) return -1;
        return settled(habit, pose, thiefs, thief)[1];
    }

    /** By turns that are left: who is caught in t turns at most, for t = 0, 1, .. till nothing is new. */
    private int[] settled(int habit, int pose, int thiefs, int thief) {
        if (pose / 4 == thief / 4) return new int[] {0, -1};
        int n = 4 * w * h;
        int[][] byCatcher = new int[n][];
        int[][] byThief = new int[n][];
        for (int p = 0; p < n; p++) {
            if (!poseOk(p)) continue;
            byCatcher[p] = new int[4];
            byThief[p] = new int[4];
            for (int tap = 0; tap < 4; tap++) {
                byCatcher[p][tap] = after(habit, p, tap);
                byThief[p][tap] = after(thiefs, p, tap);
            }
        }
        // at[0]: it is the catcher's turn; at[1]: the thief's
        boolean[][][] at = new boolean[2][n][n];
        for (int c = 0; c < n; c++) for (int t = 0; t < n; t++) at[0][c][t] = at[1][c][t] = c / 4 == t / 4;
        for (int turns = 1; ; turns++) {
            boolean[][][] then = new boolean[2][n][n];
            boolean isNew = false;
            for (int c = 0; c < n; c++) {
                for (int t = 0; t < n; t++) {
                    if (byCatcher[c] == null || byThief[t] == null) continue;
                    boolean any = false;
                    boolean all = true;
                    for (int tap = 0; tap < 4; tap++) {
                        any |= at[1][byCatcher[c][tap]][t];
                        all &= at[0][c][byThief[t][tap]];
                    }
                    then[0][c][t] = at[0][c][t] || any;
                    then[1][c][t] = at[1][c][t] || all;
                    isNew |= then[0][c][t] != at[0][c][t] || then[1][c][t] != at[1][c][t];
                }
            }
            if (then[0][pose][thief]) {
                for (int tap = 0; tap < 4; tap++) if (at[1][byCatcher[pose][tap]][thief]) return new int[] {turns, tap};
            }
            if (!isNew) return new int[] {-1, -1};
            at = then;
        }
    }

    int image() {
        kept = now.copy();
        return now.pairs.size();
    }

    int back() {
        now = kept.copy();
        return now.pairs.size();
    }

    int about(int what) {
        int[] all = {w, h, now.pairs.size(), now.texts.size(), now.row.size(), now.steps.size(), now.seen.size(),
            now.riders.size(), now.carriers.size(), tape.size()};
        if (what >= 0 && what < 10) return all[what];
        return what >= 10 && what < 10 + w * h ? now.kinds[what - 10] : -2;
    }
}
