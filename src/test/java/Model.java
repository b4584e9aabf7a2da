import java.math.BigInteger;
import java.util.ArrayList;
import java.util.List;
import java.util.regex.Pattern;

/** The document once more, by other ways than the class takes: slow, with the Java library, without tables. */
final class Model {
    static final int UNKNOWN = -1, OUTSIDE = -2, STATE = -3, FULL = -4, NONE = -9;

    private static final Pattern PLAN =
        Pattern.compile("L[0-9]{11}(s[0-5]{2}[1-9]{2}|f[0-5]{2}[0-9]{2}|w(?!(..)\\2)[0-6]{4})*", Pattern.DOTALL);

    /** What ACTS change; a copy of it is kept ahead of each ACT. */
    private static final class Stand {
        boolean[] hung = new boolean[8];
        boolean[] dead = new boolean[8];
        boolean[] stands = new boolean[5];
        int[] wants = new int[6];

        Stand copy() {
            Stand c = new Stand();
            c.hung = hung.clone();
            c.dead = dead.clone();
            c.stands = stands.clone();
            c.wants = wants.clone();
            return c;
        }
    }

    private String text = "";
    private List<int[]> spots = new ArrayList<>();
    private List<int[]> points = new ArrayList<>();
    private List<int[]> walls = new ArrayList<>();
    private int[] table = new int[10];
    private int glow = 0;
    private Stand stand = new Stand();
    private final List<Stand> acts = new ArrayList<>();
    private final List<int[]> seen = new ArrayList<>();
    private final Stand[] kept = new Stand[2];
    private BigInteger seed = BigInteger.ZERO;

    int write(int letter) {
        if (letter < 0 || letter > 255) {
            return OUTSIDE;
        }
        if (text.length() == 99) {
            return FULL;
        }
        text += (char) letter;
        return text.length();
    }

    int wipe() {
        int was = text.length();
        text = "";
        return was;
    }

    private static boolean isPlan(String t) {
        return PLAN.matcher(t).matches() && parts(t, 's').size() <= 8 && parts(t, 'f').size() <= 6
            && parts(t, 'w').size() <= 5;
    }

    private static List<int[]> parts(String t, char sign) {
        List<int[]> found = new ArrayList<>();
        for (int i = 12; i + 5 <= t.length(); i += 5) {
            if (t.charAt(i) == sign) {
                int[] figures = new int[4];
                for (int k = 0; k < 4; k++) {
                    figures[k] = t.charAt(i + 1 + k) - '0';
                }
                found.add(figures);
            }
        }
        return found;
    }

    /** Whether some way to go on makes a PLAN: zeros up to the PARTS, then all rows of 1 and 2. */
    private static boolean mayBecomePlan(String t) {
        if (t.isEmpty()) {
            return true;
        }
        if (t.length() < 12) {
            return isPlan(t + "0".repeat(12 - t.length()));
        }
        int missing = (5 - (t.length() - 12) % 5) % 5;
        for (int way = 0; way < 1 << missing; way++) {
            StringBuilder whole = new StringBuilder(t);
            for (int k = 0; k < missing; k++) {
                whole.append((way >> k & 1) == 0 ? '1' : '2');
            }
            if (isPlan(whole.toString())) {
                return true;
            }
        }
        return false;
    }

    int fault() {
        if (isPlan(text)) {
            return NONE;
        }
        for (int n = 1; n <= text.length(); n++) {
            if (!mayBecomePlan(text.substring(0, n))) {
                return n - 1;
            }
        }
        return text.length();
    }

    int plan() {
        if (!isPlan(text)) {
            return STATE;
        }
        for (int i = 0; i < 10; i++) {
            table[i] = text.charAt(1 + i) - '0';
        }
        glow = text.charAt(11) - '0';
        spots = parts(text, 's');
        points = parts(text, 'f');
        walls = parts(text, 'w');
        stand = new Stand();
        for (int w = 0; w < walls.size(); w++) {
            stand.stands[w] = true;
        }
        for (int p = 0; p < points.size(); p++) {
            stand.wants[p] = points.get(p)[2] * 10 + points.get(p)[3];
        }
        acts.clear();
        kept[0] = null;
        kept[1] = null;
        return spots.size();
    }

    private static boolean in(int i, List<?> list) {
        return i >= 0 && i < list.size();
    }

    private static boolean on(long px, long py, long cx, long cy, long dx, long dy) {
        if ((dx - cx) * (py - cy) != (dy - cy) * (px - cx)) {
            return false;
        }
        return Math.min(cx, dx) <= px && px <= Math.max(cx, dx) && Math.min(cy, dy) <= py && py <= Math.max(cy, dy);
    }

    /** By solving a + t (b - a) = c + u (d - c); lines that don't cross once meet in an end, or not at all. */
    private boolean meets(int s, int p, int w) {
        long ax = 2 * spots.get(s)[0] + 1, ay = 2 * spots.get(s)[1] + 1;
        long bx = 2 * points.get(p)[0] + 1, by = 2 * points.get(p)[1] + 1;
        long cx = 2 * walls.get(w)[0], cy = 2 * walls.get(w)[1];
        long dx = 2 * walls.get(w)[2], dy = 2 * walls.get(w)[3];
        long det = (bx - ax) * (dy - cy) - (by - ay) * (dx - cx);
        if (det == 0) {
            return on(ax, ay, cx, cy, dx, dy) || on(bx, by, cx, cy, dx, dy)
                || on(cx, cy, ax, ay, bx, by) || on(dx, dy, ax, ay, bx, by);
        }
        double t = (double) ((cx - ax) * (dy - cy) - (cy - ay) * (dx - cx)) / det;
        double u = (double) ((cx - ax) * (by - ay) - (cy - ay) * (bx - ax)) / det;
        return t >= 0 && t <= 1 && u >= 0 && u <= 1;
    }

    private int shadeBy(Stand st, int s, int p) {
        for (int w = 0; w < walls.size(); w++) {
            if (st.stands[w] && meets(s, p, w)) {
                return w;
            }
        }
        return NONE;
    }

    private int lightBy(Stand st, int s, int p) {
        int x = Math.abs(spots.get(s)[0] - points.get(p)[0]);
        int y = Math.abs(spots.get(s)[1] - points.get(p)[1]);
        int q = x * x + y * y;
        return shadeBy(st, s, p) != NONE || q > 9 ? 0 : spots.get(s)[2] * table[q];
    }

    private int sum(Stand st, int p) {
        int sum = glow;
        for (int s = 0; s < spots.size(); s++) {
            sum += st.hung[s] && !st.dead[s] ? lightBy(st, s, p) : 0;
        }
        return sum;
    }

    private boolean served(Stand st, int p) {
        return sum(st, p) >= st.wants[p];
    }

    private int servedCount(Stand st) {
        int n = 0;
        for (int p = 0; p < points.size(); p++) {
            n += served(st, p) ? 1 : 0;
        }
        return n;
    }

    private int sums(Stand st) {
        int n = 0;
        for (int p = 0; p < points.size(); p++) {
            n += sum(st, p);
        }
        return n;
    }

    private Stand withLamps(int set) {
        Stand st = stand.copy();
        for (int s = 0; s < 8; s++) {
            st.hung[s] = (set >> s & 1) != 0;
            st.dead[s] = false;
        }
        return st;
    }

    private int price(int set) {
        int n = 0;
        for (int s = 0; s < spots.size(); s++) {
            n += (set >> s & 1) * spots.get(s)[3];
        }
        return n;
    }

    private static int bits(boolean[] row) {
        int n = 0;
        for (int i = 0; i < row.length; i++) {
            n |= row[i] ? 1 << i : 0;
        }
        return n;
    }

    private int live() {
        return bits(stand.hung) & ~bits(stand.dead);
    }

    int spot(int s, int what) {
        if (!in(s, spots)) {
            return UNKNOWN;
        }
        if (what < 0 || what > 4) {
            return OUTSIDE;
        }
        if (what < 4) {
            return spots.get(s)[what];
        }
        return !stand.hung[s] ? 0 : stand.dead[s] ? 2 : 1;
    }

    int point(int p, int what) {
        if (!in(p, points)) {
            return UNKNOWN;
        }
        if (what < 0 || what > 5) {
            return OUTSIDE;
        }
        if (what < 2) {
            return points.get(p)[what];
        }
        if (what < 5) {
            return what == 2 ? stand.wants[p] : what == 3 ? sum(stand, p) : served(stand, p) ? 1 : 0;
        }
        int least = NONE;
        for (int set = 0; set < 1 << spots.size(); set++) {
            if (served(withLamps(set), p) && (least == NONE || price(set) < least)) {
                least = price(set);
            }
        }
        return least;
    }

    int light(int s, int p) {
        return in(s, spots) && in(p, points) ? lightBy(stand, s, p) : UNKNOWN;
    }

    int shade(int s, int p) {
        return in(s, spots) && in(p, points) ? shadeBy(stand, s, p) : UNKNOWN;
    }

    private void act() {
        acts.add(stand.copy());
        if (acts.size() > 14) {
            acts.remove(0);
        }
    }

    private static void hang(Stand st, int s) {
        st.hung[s] = !st.hung[s];
        st.dead[s] = false;
    }

    int hang(int s) {
        if (!in(s, spots)) {
            return UNKNOWN;
        }
        act();
        hang(stand, s);
        return Integer.bitCount(bits(stand.hung));
    }

    int die(int s) {
        if (!in(s, spots)) {
            return UNKNOWN;
        }
        if (!stand.hung[s]) {
            return STATE;
        }
        act();
        stand.dead[s] = !stand.dead[s];
        return stand.dead[s] ? 1 : 0;
    }

    int build(int w) {
        if (!in(w, walls)) {
            return UNKNOWN;
        }
        act();
        stand.stands[w] = !stand.stands[w];
        return stand.stands[w] ? 1 : 0;
    }

    int want(int p, int v) {
        if (!in(p, points)) {
            return UNKNOWN;
        }
        if (v < 0 || v > 99) {
            return OUTSIDE;
        }
        act();
        int was = stand.wants[p];
        stand.wants[p] = v;
        return was;
    }

    int undo() {
        if (acts.isEmpty()) {
            return STATE;
        }
        stand = acts.remove(acts.size() - 1);
        return acts.size();
    }

    private boolean serves(int set) {
        return servedCount(withLamps(set)) == points.size();
    }

    private boolean safe(int set) {
        for (int s = 0; s < 8; s++) {
            if ((set >> s & 1) != 0 && !serves(set - (1 << s))) {
                return false;
            }
        }
        return true;
    }

    int best(int how, int what) {
        if (how < 0 || how > 2 || what < 0 || what > 2) {
            return OUTSIDE;
        }
        long least = Long.MAX_VALUE;
        for (int set = 0; set < 1 << spots.size(); set++) {
            if (serves(set) && (how < 2 || safe(set))) {
                long spotsAhead = how == 0 ? Integer.bitCount(set) * 1000L : 0;
                least = Math.min(least, (spotsAhead + price(set)) * 256 + set);
            }
        }
        if (least == Long.MAX_VALUE) {
            return NONE;
        }
        int set = (int) (least % 256);
        return what == 0 ? set : what == 1 ? price(set) : Integer.bitCount(set);
    }

    int ask(int what) {
        if (what < 0 || what > 2) {
            return OUTSIDE;
        }
        if (what == 2) {
            return even();
        }
        int found = NONE;
        int most = 0;
        int light = 0;
        int all = what == 0 ? spots.size() : walls.size();
        for (int i = 0; i < all; i++) {
            if (what == 0 ? stand.hung[i] : !stand.stands[i]) {
                continue;
            }
            Stand st = stand.copy();
            if (what == 0) {
                st.hung[i] = true;
            } else {
                st.stands[i] = false;
            }
            int n = servedCount(st);
            int l = sums(st);
            if (found == NONE || n > most || n == most && l > light) {
                found = i;
                most = n;
                light = l;
            }
        }
        return found;
    }

    private int even() {
        List<Integer> all = new ArrayList<>();
        for (int p = 0; p < points.size(); p++) {
            all.add(sum(stand, p));
        }
        all.sort(null);
        if (all.isEmpty() || all.get(all.size() - 1) == 0) {
            return NONE;
        }
        int least = all.get(0);
        int greatest = all.get(all.size() - 1);
        return Float.floatToIntBits(least / (float) greatest);
    }

    int judge(int n, long row) {
        if (n < 1 || n > 4 || row < 0 || Long.toString(row).length() > 4 * n) {
            return OUTSIDE;
        }
        String figures = "0".repeat(4 * n - Long.toString(row).length()) + row;
        Stand st = stand.copy();
        for (int i = 0; i < n; i++) {
            if (!goes(st, figures.substring(4 * i, 4 * i + 4))) {
                return i;
            }
        }
        return NONE;
    }

    private boolean goes(Stand st, String f) {
        int a = f.charAt(1) - '0';
        int b = f.charAt(2) - '0';
        int c = f.charAt(3) - '0';
        int two = Integer.parseInt(f.substring(2));
        char kind = f.charAt(0);
        if (kind == '1' && in(a, spots) && two == 0) {
            hang(st, a);
            return true;
        }
        if (kind == '2' && in(a, spots) && two == 0 && st.hung[a]) {
            st.dead[a] = !st.dead[a];
            return true;
        }
        if (kind == '3' && in(a, walls) && two == 0) {
            st.stands[a] = !st.stands[a];
            return true;
        }
        if (kind == '6' && in(a, points)) {
            st.wants[a] = two;
            return true;
        }
        return kind == '4' && in(a, points) && sum(st, a) >= two
            || kind == '5' && in(a, points) && (two == 10 && served(st, a) || two == 0 && !served(st, a))
            || kind == '7' && in(a, spots) && in(b, points)
                && (c == 1 && shadeBy(st, a, b) != NONE || c == 0 && shadeBy(st, a, b) == NONE);
    }

    int see(int p, int v, int was) {
        if (!in(p, points)) {
            return UNKNOWN;
        }
        if (v < 0 || v > 999 || was < 0 || was > 1) {
            return OUTSIDE;
        }
        if (seen.size() == 6) {
            return FULL;
        }
        seen.add(new int[] {p, v, was});
        return seen.size();
    }

    int unsee() {
        int was = seen.size();
        seen.clear();
        return was;
    }

    int which() {
        int found = 0;
        for (int s = 0; s < spots.size(); s++) {
            if (!stand.hung[s] || stand.dead[s]) {
                continue;
            }
            Stand st = stand.copy();
            st.dead[s] = true;
            boolean so = true;
            for (int[] one : seen) {
                so &= !in(one[0], points) || (sum(st, one[0]) >= one[1] ? 1 : 0) == one[2];
            }
            found |= so ? 1 << s : 0;
        }
        return found;
    }

    private static int told(BigInteger above, BigInteger below, boolean upper) {
        BigInteger d = above.gcd(below);
        return (upper ? above : below).divide(d).intValueExact();
    }

    /** In each order, one after the other. */
    int share(int s, boolean upper) {
        if (!in(s, spots)) {
            return UNKNOWN;
        }
        if (!stand.hung[s] || stand.dead[s]) {
            return STATE;
        }
        int[] counts = new int[256];
        for (int set = 0; set < 256; set++) {
            counts[set] = (set & ~live()) == 0 ? servedCount(withLamps(set)) : 0;
        }
        long[] gainAndOrders = new long[2];
        order(counts, live(), 0, s, gainAndOrders);
        return told(BigInteger.valueOf(gainAndOrders[0]), BigInteger.valueOf(gainAndOrders[1]), upper);
    }

    private static void order(int[] counts, int left, int here, int spot, long[] gainAndOrders) {
        if (left == 0) {
            gainAndOrders[1]++;
            return;
        }
        for (int s = 0; s < 8; s++) {
            if ((left >> s & 1) != 0) {
                long orders = gainAndOrders[1];
                order(counts, left - (1 << s), here + (1 << s), spot, gainAndOrders);
                if (s == spot) {
                    gainAndOrders[0] += (gainAndOrders[1] - orders) * (counts[here + (1 << s)] - counts[here]);
                }
            }
        }
    }

    int chance(int x, boolean upper) {
        if (x < 0 || x > 10) {
            return OUTSIDE;
        }
        BigInteger above = weight(0, 0, x);
        return told(above, BigInteger.TEN.pow(Integer.bitCount(live())), upper);
    }

    private BigInteger weight(int s, int living, int x) {
        if (s == 8) {
            return serves(living) ? BigInteger.ONE : BigInteger.ZERO;
        }
        if ((live() >> s & 1) == 0) {
            return weight(s + 1, living, x);
        }
        return weight(s + 1, living, x).multiply(BigInteger.valueOf(x))
            .add(weight(s + 1, living | 1 << s, x).multiply(BigInteger.valueOf(10 - x)));
    }

    long seed(long v) {
        long was = seed.longValue();
        seed = BigInteger.valueOf(v);
        return was;
    }

    int drawn(int m) {
        if (m < 1 || m > 20) {
            return OUTSIDE;
        }
        int n = 0;
        for (int i = 0; i < m; i++) {
            seed = seed.multiply(new BigInteger("6364136223846793005")).add(new BigInteger("1442695040888963407"));
            seed = seed.mod(BigInteger.ONE.shiftLeft(64));
            Stand st = stand.copy();
            for (int p = 0; p < 6; p++) {
                st.wants[p] = seed.shiftRight(33 + 5 * p).mod(BigInteger.valueOf(32)).intValue();
            }
            n += servedCount(st);
        }
        return n;
    }

    int keep(int slot) {
        if (slot != 0 && slot != 1) {
            return UNKNOWN;
        }
        kept[slot] = stand.copy();
        return Integer.bitCount(bits(stand.hung));
    }

    int again(int slot) {
        if (slot != 0 && slot != 1) {
            return UNKNOWN;
        }
        if (kept[slot] == null) {
            return STATE;
        }
        stand = kept[slot].copy();
        acts.clear();
        return Integer.bitCount(bits(stand.hung));
    }

    int count(int what) {
        if (what < 0 || what > 10) {
            return OUTSIDE;
        }
        int servedBits = 0;
        for (int p = 0; p < points.size(); p++) {
            servedBits |= served(stand, p) ? 1 << p : 0;
        }
        int[] all = {text.length(), spots.size(), points.size(), walls.size(), glow, bits(stand.hung), bits(stand.dead),
            bits(stand.stands), servedBits, acts.size(), seen.size()};
        return all[what];
    }
}
