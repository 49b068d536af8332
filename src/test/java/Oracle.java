import java.math.BigInteger;
import java.util.ArrayDeque;
import java.util.ArrayList;
import java.util.Arrays;
import java.util.Deque;
import java.util.List;
import java.util.regex.Matcher;
import java.util.regex.Pattern;

/**
 * The document told a second time, in another shape and without care for room or speed: worlds are copied,
 * shares stand by family, ways are tried all, chances are added up as fractions. It shares no line with the class.
 */
final class Oracle {
    static final int BAD = -1, NO = -2, FULL = -3, NONE = -4;

    private static final class World {
        int day;
        int[] kind, hours, land;
        boolean[] sick;
        int[][] ends;
        int[] at;
        int[][] share;
        int[][] trees;

        World copy() {
            World c = new World();
            c.day = day;
            c.kind = kind.clone();
            c.hours = hours.clone();
            c.land = land.clone();
            c.sick = sick.clone();
            c.ends = ends.clone();
            c.at = at.clone();
            c.share = share.clone();
            for (int i = 0; i < share.length; i++) {
                c.share[i] = share[i].clone();
            }
            c.trees = trees;
            return c;
        }

        List<Integer> wallsOf(int f) {
            List<Integer> list = new ArrayList<>();
            for (int w = 0; w < ends.length; w++) {
                if (ends[w][0] == f || ends[w][1] == f) {
                    list.add(w);
                }
            }
            return list;
        }

        World even(int f, int h) {
            World c = copy();
            List<Integer> list = wallsOf(f);
            for (int i = 0; i < list.size(); i++) {
                c.share[f][list.get(i)] = h / list.size() + (i < h % list.size() ? 1 : 0);
            }
            return c;
        }

        int work(int f, int w) {
            if (day % 7 == 6 || kind[f] == 1) {
                return 0;
            }
            int s = share[f][w];
            if (kind[f] == 0) {
                return sick[f] ? 0 : s;
            } else if (kind[f] == 2) {
                return sick[f] ? s + s : s;
            } else if (kind[f] == 3) {
                return sick[f] ? 1 : s + 1;
            }
            return sick[f] ? 0 : land[f] >= 10 ? Math.max(2, s) : s;
        }

        World next(boolean[] idle) {
            World c = copy();
            for (int w = 0; w < ends.length; w++) {
                int a = ends[w][0];
                int b = ends[w][1];
                int byA = idle[a] ? 0 : work(a, w);
                int byB = idle[b] ? 0 : work(b, w);
                if (byA < byB && c.land[a] > 0) {
                    c.land[a]--;
                    c.land[b]++;
                    c.at[w]--;
                }
                if (byB < byA && c.land[b] > 0) {
                    c.land[b]--;
                    c.land[a]++;
                    c.at[w]++;
                }
            }
            c.day++;
            return c;
        }

        World next() {
            return next(new boolean[kind.length]);
        }

        World behind(int n) {
            World c = this;
            for (int i = 0; i < n; i++) {
                c = c.next();
            }
            return c;
        }

        int treeOf(int t) {
            int w = trees[t][0];
            return at[w] >= trees[t][1] - 20 ? ends[w][0] : ends[w][1];
        }

        World ill(int f) {
            World c = copy();
            c.sick[f] = !c.sick[f];
            return c;
        }
    }

    private final StringBuilder text = new StringBuilder();
    private World now;
    private final Deque<World> past = new ArrayDeque<>();
    private final Deque<World> kept = new ArrayDeque<>();
    private final List<int[]> seen = new ArrayList<>();

    Oracle() {
        now = world("f0,5,20;f1,8,12;f2,4,9;f3,3,15;f4,6,30;w0,1;w1,2;w2,3;w3,0;w0,4;w4,2;t0,22;t1,18;t4,21;");
    }

    private static final Pattern ITEM = Pattern.compile(
        "f(\\d{1,2}),(\\d{1,2}),(\\d{1,2});|w(\\d{1,2}),(\\d{1,2});|t(\\d{1,2}),(\\d{1,2});");

    /** The items of a text up to its first fault; the place of that fault is added as the last one, NONE if none. */
    private static int items(String text, List<int[]> fams, List<int[]> walls, List<int[]> trees) {
        Matcher m = ITEM.matcher(text);
        int place = 0;
        while (place < text.length()) {
            if (!m.find(place) || m.start() != place) {
                return place;
            }
            boolean so;
            if (m.group(1) != null) {
                int[] n = {Integer.parseInt(m.group(1)), Integer.parseInt(m.group(2)), Integer.parseInt(m.group(3))};
                so = n[0] <= 4 && n[1] <= 12 && fams.size() < 6;
                fams.add(n);
            } else if (m.group(4) != null) {
                int[] n = {Integer.parseInt(m.group(4)), Integer.parseInt(m.group(5))};
                so = n[0] != n[1] && n[0] < fams.size() && n[1] < fams.size() && walls.size() < 8
                    && walls.stream().filter(w -> w[0] == n[0] || w[1] == n[0]).count() < 4
                    && walls.stream().filter(w -> w[0] == n[1] || w[1] == n[1]).count() < 4;
                walls.add(n);
            } else {
                int[] n = {Integer.parseInt(m.group(6)), Integer.parseInt(m.group(7))};
                so = n[0] < walls.size() && n[1] <= 40 && trees.size() < 6;
                trees.add(n);
            }
            if (!so) {
                return place;
            }
            place = m.end();
        }
        return NONE;
    }

    private static World world(String text) {
        List<int[]> fams = new ArrayList<>();
        List<int[]> walls = new ArrayList<>();
        List<int[]> trees = new ArrayList<>();
        if (items(text, fams, walls, trees) != NONE || fams.isEmpty()) {
            return null;
        }
        World c = new World();
        c.kind = fams.stream().mapToInt(n -> n[0]).toArray();
        c.hours = fams.stream().mapToInt(n -> n[1]).toArray();
        c.land = fams.stream().mapToInt(n -> n[2]).toArray();
        c.sick = new boolean[fams.size()];
        c.ends = walls.toArray(new int[0][]);
        c.at = new int[walls.size()];
        c.share = new int[fams.size()][walls.size()];
        c.trees = trees.toArray(new int[0][]);
        for (int f = 0; f < fams.size(); f++) {
            c = c.even(f, c.hours[f]);
        }
        return c;
    }

    private boolean fam(int f) {
        return f >= 0 && f < now.kind.length;
    }

    private boolean wal(int w) {
        return w >= 0 && w < now.ends.length;
    }

    private boolean tre(int t) {
        return t >= 0 && t < now.trees.length;
    }

    private static boolean out(int n, int from, int to) {
        return n < from || n > to;
    }

    private void remember() {
        past.addLast(now);
        if (past.size() > 8) {
            past.removeFirst();
        }
    }

    int write(int letter) {
        if (out(letter, 32, 126)) {
            return BAD;
        }
        if (text.length() == 200) {
            return FULL;
        }
        return text.append((char) letter).length();
    }

    int wipe() {
        int n = text.length();
        text.setLength(0);
        return n;
    }

    int fault() {
        return items(text.toString(), new ArrayList<>(), new ArrayList<>(), new ArrayList<>());
    }

    int lay() {
        World laid = world(text.toString());
        if (laid == null) {
            return NO;
        }
        now = laid;
        past.clear();
        kept.clear();
        seen.clear();
        return now.kind.length;
    }

    int family(int f, int what) {
        if (!fam(f) || out(what, 0, 5)) {
            return BAD;
        }
        int bits = 0;
        for (int t = 0; t < now.trees.length; t++) {
            bits += now.treeOf(t) == f ? 1 << t : 0;
        }
        return new int[] {now.kind[f], now.hours[f], now.land[f], now.sick[f] ? 1 : 0,
            now.wallsOf(f).size(), bits}[what];
    }

    int wall(int w, int what) {
        if (!wal(w) || out(what, 0, 7)) {
            return BAD;
        }
        int a = now.ends[w][0];
        int b = now.ends[w][1];
        int less = now.work(a, w) < now.work(b, w) ? a : now.work(a, w) > now.work(b, w) ? b : NONE;
        int toward = less == NONE || now.land[less] == 0 ? NONE : less;
        return new int[] {a, b, now.at[w] + 50, now.share[a][w], now.share[b][w], now.work(a, w), now.work(b, w),
            toward}[what];
    }

    int tree(int t) {
        return tre(t) ? now.treeOf(t) : BAD;
    }

    int pass(int n) {
        if (out(n, 1, 30)) {
            return BAD;
        }
        remember();
        now = now.behind(n);
        return now.day;
    }

    int share(int f, int w, int h) {
        if (!fam(f) || !wal(w) || out(h, 0, 12)) {
            return BAD;
        }
        if (!now.wallsOf(f).contains(w)) {
            return NO;
        }
        World next = now.copy();
        next.share[f][w] = h;
        int left = now.hours[f] - Arrays.stream(next.share[f]).sum();
        if (left < 0) {
            return NO;
        }
        remember();
        now = next;
        return left;
    }

    int sick(int f) {
        if (!fam(f)) {
            return BAD;
        }
        remember();
        now = now.ill(f);
        return now.sick[f] ? 1 : 0;
    }

    int undo() {
        if (past.isEmpty()) {
            return NO;
        }
        now = past.removeLast();
        return past.size();
    }

    int behind(int n, int k, int what) {
        if (out(n, 0, 60) || out(what, 0, 2) || !(what == 0 ? fam(k) : what == 1 ? wal(k) : tre(k))) {
            return BAD;
        }
        World c = now.behind(n);
        return what == 0 ? c.land[k] : what == 1 ? c.at[k] + 100 : c.treeOf(k);
    }

    int gone(int what) {
        if (out(what, 0, 1)) {
            return BAD;
        }
        for (int n = 1; n <= 60; n++) {
            World c = now.behind(n);
            for (int f = 0; f < c.land.length; f++) {
                if (now.land[f] != 0 && c.land[f] == 0) {
                    return what == 0 ? f : n;
                }
            }
        }
        return NONE;
    }

    private static void ways(int hours, int walls, List<Integer> begun, List<List<Integer>> all) {
        if (walls == 1) {
            List<Integer> way = new ArrayList<>(begun);
            way.add(hours);
            all.add(way);
            return;
        }
        for (int h = hours; h >= 0; h--) {
            List<Integer> more = new ArrayList<>(begun);
            more.add(h);
            ways(hours - h, walls - 1, more, all);
        }
    }

    int best(int f, int n, int k) {
        if (!fam(f) || out(n, 1, 14) || out(k, 0, 4)) {
            return BAD;
        }
        List<Integer> mine = now.wallsOf(f);
        if (mine.isEmpty() || k > mine.size()) {
            return NONE;
        }
        List<List<Integer>> all = new ArrayList<>();
        ways(now.hours[f], mine.size(), new ArrayList<>(), all);
        int most = -1;
        List<Integer> best = null;
        for (List<Integer> way : all) {
            World c = now.copy();
            for (int i = 0; i < mine.size(); i++) {
                c.share[f][mine.get(i)] = way.get(i);
            }
            int land = c.behind(n).land[f];
            if (land > most) {
                most = land;
                best = way;
            }
        }
        return k == 0 ? most : best.get(k - 1);
    }

    int enough(int f, int n) {
        if (!fam(f) || out(n, 1, 14)) {
            return BAD;
        }
        for (int h = 0; h <= 12; h++) {
            if (now.even(f, h).behind(n).land[f] >= now.land[f]) {
                return h;
            }
        }
        return NONE;
    }

    int nextTo(int f, int g) {
        if (!fam(f) || !fam(g) || f == g) {
            return BAD;
        }
        World c = now.copy();
        c.ends = Arrays.copyOf(c.ends, c.ends.length + 1);
        c.ends[c.ends.length - 1] = new int[] {g, f};
        c.at = Arrays.copyOf(c.at, c.ends.length);
        for (int i = 0; i < c.share.length; i++) {
            c.share[i] = Arrays.copyOf(c.share[i], c.ends.length);
        }
        return c.behind(7).land[f] - now.behind(7).land[f] + 50;
    }

    int all(int f) {
        if (!fam(f)) {
            return BAD;
        }
        World c = now.copy();
        int[] hours = now.hours.clone();
        for (int round = 1; round <= 20; round++) {
            int[] before = hours.clone();
            for (int g = 0; g < hours.length; g++) {
                int take = 0;
                for (int h = 1; h <= 12; h++) {
                    if (c.even(g, h).behind(7).land[g] - h > c.even(g, take).behind(7).land[g] - take) {
                        take = h;
                    }
                }
                c = c.even(g, take);
                hours[g] = take;
            }
            if (Arrays.equals(before, hours)) {
                return hours[f];
            }
        }
        return NONE;
    }

    int see(int w, int v, int t) {
        if (!wal(w) || out(v, 0, 99) || out(t, 1, 30)) {
            return BAD;
        }
        if (seen.size() == 6) {
            return FULL;
        }
        seen.add(new int[] {w, v - 50, t});
        return seen.size();
    }

    int forget() {
        int n = seen.size();
        seen.clear();
        return n;
    }

    private boolean so(World c) {
        return seen.stream().allMatch(s -> c.behind(s[2]).at[s[0]] == s[1]);
    }

    int whoSick() {
        int bits = so(now) ? 64 : 0;
        for (int f = 0; f < now.kind.length; f++) {
            bits += so(now.ill(f)) ? 1 << f : 0;
        }
        return bits;
    }

    int kinds(int f) {
        if (!fam(f)) {
            return BAD;
        }
        int bits = 0;
        for (int kind = 0; kind <= 4; kind++) {
            World c = now.copy();
            c.kind[f] = kind;
            bits += so(c) ? 1 << kind : 0;
        }
        return bits;
    }

    /** The chance by tenths, times ten to the power of the families from g on. */
    private BigInteger chance(boolean[] idle, int g, int f, int l, int x) {
        if (g == idle.length) {
            return now.next(idle).land[f] >= l ? BigInteger.ONE : BigInteger.ZERO;
        }
        idle[g] = true;
        BigInteger lazy = chance(idle, g + 1, f, l, x).multiply(BigInteger.valueOf(x));
        idle[g] = false;
        return lazy.add(chance(idle, g + 1, f, l, x).multiply(BigInteger.valueOf(10 - x)));
    }

    int idle(int f, int l, int x, int part) {
        if (!fam(f) || out(l, 0, 99) || out(x, 0, 10) || out(part, 0, 1)) {
            return BAD;
        }
        BigInteger above = chance(new boolean[now.kind.length], 0, f, l, x);
        BigInteger below = BigInteger.TEN.pow(now.kind.length);
        BigInteger common = above.gcd(below);
        return (part == 0 ? above : below).divide(common).intValueExact();
    }

    int year(int z, int n, int what) {
        if (out(z, 0, 9999) || out(n, 1, 60) || out(what, 0, 1)) {
            return BAD;
        }
        World c = now;
        int feet = 0;
        for (int k = 0; k < n; k++) {
            BigInteger x = BigInteger.valueOf(7919L * z + 6151L * k + 1);
            int draw = x.multiply(x).mod(BigInteger.valueOf(65521)).intValueExact() / 2;
            if (draw / 8 % 3 == 0) {
                c = c.ill(draw % c.kind.length);
            }
            World next = c.next();
            for (int w = 0; w < c.at.length; w++) {
                feet += Math.abs(next.at[w] - c.at[w]);
            }
            c = next;
        }
        return what == 0 ? Arrays.stream(c.land).max().getAsInt() : feet;
    }

    int keep() {
        if (kept.size() == 2) {
            return FULL;
        }
        kept.addLast(now);
        return kept.size();
    }

    int back() {
        if (kept.isEmpty()) {
            return NO;
        }
        now = kept.removeLast();
        past.clear();
        return kept.size();
    }

    int count(int what) {
        if (out(what, 0, 9)) {
            return BAD;
        }
        int ill = 0;
        for (boolean s : now.sick) {
            ill += s ? 1 : 0;
        }
        return new int[] {now.kind.length, now.ends.length, now.trees.length, now.day, ill,
            Arrays.stream(now.land).sum(), seen.size(), past.size(), kept.size(), text.length()}[what];
    }
}
