import java.util.ArrayList;
import java.util.HashMap;
import java.util.List;
import java.util.Map;
import java.util.regex.Matcher;
import java.util.regex.Pattern;

/**
 * The document's words taken literally, as slowly as they stand: a second writing of the class to compare it with.
 * It shares nothing with src/main/java/PinAngels.java.
 */
final class SlowModel {
    private static final class Fig {
        final int kind;
        final int far;

        Fig(int kind, int far) {
            this.kind = kind;
            this.far = far;
        }

        int from(int p) {
            switch (kind) {
                case 0: return (p + far) % 8;
                case 1: return new Fig(0, far).from(new Fig(0, far).from(p));
                case 2: return new Fig(0, far).from((8 - p) % 8);
                case 3: return p % 2 == 0 ? new Fig(1, far).from(p) : p;
                default:
                    int m = new Fig(2, far).from(p);
                    return m == 0 ? 4 : m == 4 ? 0 : m;
            }
        }
    }

    private static final class Moment {
        final List<Integer> where;
        final int beat;
        final int draw;

        Moment(List<Integer> where, int beat, int draw) {
            this.where = new ArrayList<>(where);
            this.beat = beat;
            this.draw = draw;
        }
    }

    private static final class World {
        List<Integer> where = new ArrayList<>();
        List<Fig> figs = new ArrayList<>();
        List<Integer> tune = new ArrayList<>();
        int beat = 0;
        int draw = 1;
        List<Moment> done = new ArrayList<>();

        World twin() {
            World w = new World();
            w.where.addAll(where);
            w.figs.addAll(figs);
            w.tune.addAll(tune);
            w.beat = beat;
            w.draw = draw;
            w.done.addAll(done);
            return w;
        }
    }

    private World w = new World();
    private World image = null;
    private final StringBuilder tape = new StringBuilder();
    private final Object[] sheets = new Object[4];

    private boolean in(int v, int a, int b) {
        return v >= a && v <= b;
    }

    private boolean angelIs(int a) {
        return in(a, 0, w.where.size() - 1);
    }

    private boolean figIs(int f) {
        return in(f, 0, w.figs.size() - 1);
    }

    private int set(List<Integer> where) {
        int s = 0;
        for (int p : where) {
            if (p >= 0) {
                s |= 1 << p;
            }
        }
        return s;
    }

    int angel(int place) {
        if (!in(place, 0, 7)) return -1;
        if (w.where.size() == 8) return -3;
        if (w.where.contains(place)) return -2;
        w.where.add(place);
        w.done.clear();
        return w.where.size() - 1;
    }

    int figure(int kind, int far) {
        if (!in(kind, 0, 4) || !in(far, 0, 7)) return -1;
        if (w.figs.size() == 5) return -3;
        w.figs.add(new Fig(kind, far));
        w.done.clear();
        return w.figs.size() - 1;
    }

    int tune(int f) {
        if (!figIs(f)) return -1;
        if (w.tune.size() == 16) return -3;
        w.tune.add(f);
        w.done.clear();
        return w.tune.size();
    }

    int hush() {
        int n = w.tune.size();
        w.tune.clear();
        w.done.clear();
        return n;
    }

    int of(int f, int what) {
        if (!figIs(f) || !in(what, 0, 4)) return -1;
        Fig g = w.figs.get(f);
        if (what == 0) return g.kind;
        if (what == 1) return g.far;
        if (what == 2) {
            int[] p = {0, 1, 2, 3, 4, 5, 6, 7};
            for (int times = 1; ; times++) {
                boolean home = true;
                for (int i = 0; i < 8; i++) {
                    p[i] = g.from(p[i]);
                    home &= p[i] == i;
                }
                if (home) return times;
            }
        }
        if (what == 3) {
            int s = 0;
            for (int p = 0; p < 8; p++) s += g.from(p) == p ? 1 << p : 0;
            return s;
        }
        for (int e = 0; ; e++) {
            int like = 0;
            for (int p = 0; p < 8; p++) like += w.figs.get(e).from(p) == g.from(p) ? 1 : 0;
            if (like == 8) return e;
        }
    }

    int leads(int f, int p) {
        return figIs(f) && in(p, 0, 7) ? w.figs.get(f).from(p) : -1;
    }

    int at(int a) {
        return angelIs(a) ? w.where.get(a) : -1;
    }

    private static boolean there(int set, int p) {
        return (set & 1 << Math.floorMod(p, 8)) != 0;
    }

    private static int seenIn(int set, int v) {
        int n = 0;
        for (int off = -3; off <= 3; off++) {
            if (!there(set, v + off)) continue;
            int towards = off < 0 ? off + 1 : off - 1;
            if (Math.abs(off) >= 2 && there(set, v + towards)) continue;
            n++;
        }
        return n;
    }

    int seen(int v) {
        return in(v, 0, 7) ? seenIn(set(w.where), v) : -1;
    }

    int type(int c) {
        if (!in(c, 32, 126)) return -1;
        if (tape.length() == 60) return -3;
        return tape.append((char) c).length();
    }

    private static final Pattern[] RINGS = rings();

    private static Pattern[] rings() {
        Pattern[] all = new Pattern[6];
        all[0] = Pattern.compile("[.*]{8}");
        for (int n = 1; n <= 5; n++) {
            StringBuilder b = new StringBuilder("[.*]{8};[remhc][0-7]");
            for (int k = 1; k < n; k++) b.append(",[remhc][0-7]");
            all[n] = Pattern.compile(b.append("(:[0-").append(n - 1).append("]{1,16})?").toString());
        }
        return all;
    }

    int ring() {
        String raw = tape.toString();
        tape.setLength(0);
        String bare = "";
        for (int i = 0; i < raw.length(); i++) {
            if (raw.charAt(i) == ' ') continue;
            bare += raw.charAt(i);
            boolean canStand = false;
            for (Pattern p : RINGS) {
                Matcher m = p.matcher(bare);
                canStand |= m.matches() || m.hitEnd();
            }
            if (!canStand) return -20 - i;
        }
        boolean whole = false;
        for (Pattern p : RINGS) whole |= p.matcher(bare).matches();
        if (!whole) return -20 - raw.length();
        World n = new World();
        n.draw = w.draw;
        String[] parts = bare.split("[;:]");
        for (int p = 0; p < 8; p++) if (parts[0].charAt(p) == '*') n.where.add(p);
        if (parts.length > 1) {
            for (String f : parts[1].split(",")) n.figs.add(new Fig("remhc".indexOf(f.charAt(0)), f.charAt(1) - '0'));
        }
        if (parts.length > 2) {
            for (char c : parts[2].toCharArray()) n.tune.add(c - '0');
        }
        w = n;
        return n.where.size();
    }

    int count(int what) {
        switch (what) {
            case 0: return w.where.size();
            case 1: return w.figs.size();
            case 2: return w.tune.size();
            case 3: return w.beat;
            case 4: return set(w.where);
            case 5:
                int s = 0;
                for (int a = 0; a < w.where.size(); a++) if (w.where.get(a) < 0) s |= 1 << a;
                return s;
            case 6: return w.tune.isEmpty() ? -4 : w.tune.get(w.beat % w.tune.size());
            case 7: return w.done.size();
            default: return -1;
        }
    }

    private void remember() {
        w.done.add(new Moment(w.where, w.beat, w.draw));
        if (w.done.size() > 8) w.done.remove(0);
    }

    private static void oneBeat(World u) {
        if (!u.tune.isEmpty()) {
            Fig f = u.figs.get(u.tune.get(u.beat % u.tune.size()));
            for (int a = 0; a < u.where.size(); a++) {
                if (u.where.get(a) >= 0) u.where.set(a, f.from(u.where.get(a)));
            }
        }
        u.beat++;
    }

    private void shift(int n) {
        for (int a = 0; a < w.where.size(); a++) {
            if (w.where.get(a) >= 0) w.where.set(a, (w.where.get(a) + n) % 8);
        }
    }

    int beats(int n) {
        if (!in(n, 1, 40)) return -1;
        if (w.beat + n > 9999) return -3;
        for (int t = 0; t < n; t++) {
            remember();
            oneBeat(w);
        }
        return set(w.where);
    }

    int draught(int n) {
        if (!in(n, 1, 7)) return -1;
        remember();
        shift(n);
        return set(w.where);
    }

    int leave(int a) {
        if (!angelIs(a)) return -1;
        if (w.where.get(a) < 0) return -2;
        remember();
        return w.where.set(a, -4);
    }

    int come(int a, int p) {
        if (!angelIs(a) || !in(p, 0, 7)) return -1;
        if (w.where.get(a) >= 0 || w.where.contains(p)) return -2;
        remember();
        w.where.set(a, p);
        return (int) w.where.stream().filter(q -> q >= 0).count();
    }

    int drift(int n) {
        if (!in(n, 1, 40)) return -1;
        if (w.beat + n > 9999) return -3;
        for (int t = 0; t < n; t++) {
            remember();
            w.draw = java.math.BigInteger.valueOf(w.draw).multiply(java.math.BigInteger.valueOf(1103515245))
                    .add(java.math.BigInteger.valueOf(12345)).mod(java.math.BigInteger.ONE.shiftLeft(31)).intValueExact();
            if ((w.draw / 65536) % 4 == 0) shift(1 + (w.draw / 128) % 7);
            oneBeat(w);
        }
        return set(w.where);
    }

    int undo() {
        if (w.done.isEmpty()) return -4;
        Moment m = w.done.remove(w.done.size() - 1);
        w.where = new ArrayList<>(m.where);
        w.beat = m.beat;
        w.draw = m.draw;
        return w.done.size();
    }

    int seed(int v) {
        if (v < 0) return -1;
        int was = w.draw;
        w.draw = v;
        return was;
    }

    /** All permutations of 8 places come back behind 840 rounds, so beats beyond so many rounds are left out. */
    private World behind(int n) {
        World u = w.twin();
        int beats = w.tune.isEmpty() ? 0 : n % (840 * w.tune.size());
        for (int t = 0; t < beats; t++) oneBeat(u);
        return u;
    }

    int ahead(int a, int n) {
        if (!angelIs(a) || !in(n, 0, 2000000000)) return -1;
        return behind(n).where.get(a);
    }

    int then(int p, int n, int what) {
        if (!in(p, 0, 7) || !in(n, 0, 2000000000) || !in(what, 0, 1)) return -1;
        World u = behind(n);
        if (what == 1) return seenIn(set(u.where), p);
        int who = u.where.indexOf(p);
        return who < 0 ? -4 : who;
    }

    int back(int a) {
        if (a != -1 && !angelIs(a)) return -1;
        if (w.tune.isEmpty()) return 0;
        World u = w.twin();
        for (int beats = 1; ; beats++) {
            oneBeat(u);
            boolean home = a == -1 ? u.where.equals(w.where) : u.where.get(a).equals(w.where.get(a));
            if (beats % w.tune.size() == 0 && home) return beats;
        }
    }

    int been(int a) {
        if (!angelIs(a)) return -1;
        World u = w.twin();
        int s = 0;
        for (int t = 0; t < 500; t++) {
            if (u.where.get(a) >= 0) s |= 1 << u.where.get(a);
            oneBeat(u);
        }
        return s;
    }

    private int moved(Fig f, int set) {
        int s = 0;
        for (int p = 0; p < 8; p++) if (there(set, p)) s |= 1 << f.from(p);
        return s;
    }

    /** The first of the shortest rows to every set, found by bettering rows till none can be bettered. */
    private Map<Integer, String> rows() {
        Map<Integer, String> best = new HashMap<>();
        best.put(set(w.where), "");
        boolean better = true;
        while (better) {
            better = false;
            for (int from : new ArrayList<>(best.keySet())) {
                for (int f = 0; f < w.figs.size(); f++) {
                    int to = moved(w.figs.get(f), from);
                    String row = best.get(from) + f;
                    String had = best.get(to);
                    if (had == null || row.length() < had.length()
                            || row.length() == had.length() && row.compareTo(had) < 0) {
                        best.put(to, row);
                        better = true;
                    }
                }
            }
        }
        return best;
    }

    int shortest(int places, int k) {
        if (!in(places, 0, 255) || k < -1) return -1;
        String row = rows().get(places);
        if (row == null) return -4;
        if (k == -1) return row.length();
        return k < row.length() ? row.charAt(k) - '0' : -4;
    }

    int sorts() {
        return rows().size();
    }

    int apart(int a, int b, int what) {
        if (!angelIs(a) || !angelIs(b) || a == b || !in(what, 0, 1)) return -1;
        if (w.where.get(a) < 0 || w.where.get(b) < 0) return -2;
        boolean[][] now = new boolean[8][8];
        now[w.where.get(a)][w.where.get(b)] = true;
        int farthest = -1;
        int first = -1;
        for (int rows = 0; rows < 64; rows++) {
            boolean[][] next = new boolean[8][8];
            for (int p = 0; p < 8; p++) {
                for (int q = 0; q < 8; q++) {
                    if (!now[p][q]) continue;
                    int d = Math.min(Math.floorMod(p - q, 8), Math.floorMod(q - p, 8));
                    if (d > farthest) {
                        farthest = d;
                        first = rows;
                    }
                    for (Fig f : w.figs) next[f.from(p)][f.from(q)] = true;
                }
            }
            now = next;
        }
        return what == 0 ? first : farthest;
    }

    private int waysTo(int p, int place, int n) {
        if (n == 0) return p == place ? 1 : 0;
        int ways = 0;
        for (Fig f : w.figs) ways += waysTo(f.from(p), place, n - 1);
        return ways;
    }

    int chance(int a, int p, int n, int what) {
        if (!angelIs(a) || !in(p, 0, 7) || !in(n, 0, 8) || !in(what, 0, 1)) return -1;
        if (w.where.get(a) < 0 || w.figs.isEmpty()) return -2;
        java.math.BigInteger above = java.math.BigInteger.valueOf(waysTo(w.where.get(a), p, n));
        java.math.BigInteger below = java.math.BigInteger.valueOf(w.figs.size()).pow(n);
        return (what == 0 ? above : below).divide(above.gcd(below)).intValueExact();
    }

    int image() {
        image = w.twin();
        return 1;
    }

    int restore() {
        if (image == null) return -4;
        w = image.twin();
        return 1;
    }

    private static int lane(Object row) {
        return row instanceof byte[] ? 0 : row instanceof short[] ? 1 : row instanceof int[] ? 2 : 3;
    }

    private int found(int s, int lane, int i, int n) {
        if (sheets[s] == null) return -11;
        if (lane(sheets[s]) != lane) return -12;
        long end = (long) i + n;
        return i < 0 || n < 0 || end > java.lang.reflect.Array.getLength(sheets[s]) ? -13 : 0;
    }

    private long item(int s, int i) {
        return java.lang.reflect.Array.getLong(sheets[s], i);
    }

    private void put(int s, int i, long v) {
        if (sheets[s] instanceof byte[] r) r[i] = (byte) v;
        if (sheets[s] instanceof short[] r) r[i] = (short) v;
        if (sheets[s] instanceof int[] r) r[i] = (int) v;
        if (sheets[s] instanceof long[] r) r[i] = v;
    }

    int counts(int v, int s, int lane, int i, int n, int what) {
        if (!in(v, 0, 7) || !in(s, 0, 3) || !in(lane, 0, 3) || !in(n, 1, 8) || !in(what, 0, 2)) return -1;
        if (found(s, lane, i, n) < 0) return found(s, lane, i, n);
        List<Integer> sizes = new ArrayList<>();
        for (int set = 0; set < 256; set++) {
            boolean so = true;
            for (int t = 0; t < n; t++) so &= item(s, i + t) == seenIn(set, (v + t) % 8);
            if (so) sizes.add(Integer.bitCount(set));
        }
        if (what == 0) return sizes.size();
        if (sizes.isEmpty()) return -4;
        return what == 1 ? java.util.Collections.min(sizes) : java.util.Collections.max(sizes);
    }

    int steps(int a, int f, int s, int lane, int i, int n, int what) {
        if (!angelIs(a) || !figIs(f) || !in(s, 0, 3) || !in(lane, 0, 3) || !in(n, 1, 8) || !in(what, 0, 1)) return -1;
        if (found(s, lane, i, n) < 0) return found(s, lane, i, n);
        if (w.where.get(a) < 0) return -2;
        int set = 0;
        for (int c = 0; c < (what == 0 ? 5 : 8); c++) {
            World u = w.twin();
            Fig was = w.figs.get(f);
            u.figs.set(f, what == 0 ? new Fig(c, was.far) : new Fig(was.kind, c));
            boolean so = true;
            for (int t = 0; t < n; t++) {
                oneBeat(u);
                so &= u.where.get(a) == item(s, i + t);
            }
            set |= so ? 1 << c : 0;
        }
        return set;
    }

    int film(int a, int n, int s, int lane, int i) {
        if (!angelIs(a) || !in(n, 1, 24) || !in(s, 0, 3) || !in(lane, 0, 3)) return -1;
        if (found(s, lane, i, n) < 0) return found(s, lane, i, n);
        World u = w.twin();
        for (int t = 0; t < n; t++) {
            oneBeat(u);
            put(s, i + t, u.where.get(a));
        }
        return n;
    }

    int sheet(int s, int lane, int n) {
        if (!in(s, 0, 3) || !in(lane, 0, 3) || n > 24) return -1;
        if (n < 0) return -14;
        sheets[s] = lane == 0 ? new byte[n] : lane == 1 ? new short[n] : lane == 2 ? new int[n] : new long[n];
        return n;
    }

    int drop(int s) {
        if (!in(s, 0, 3)) return -1;
        if (sheets[s] == null) return -11;
        int n = java.lang.reflect.Array.getLength(sheets[s]);
        sheets[s] = null;
        return n;
    }

    int item(int s, int lane, int i, long v) {
        if (!in(s, 0, 3) || !in(lane, 0, 3)) return -1;
        if (found(s, lane, i, 1) < 0) return found(s, lane, i, 1);
        put(s, i, v);
        return 1;
    }

    int copy(int from, int i, int to, int j, int n) {
        if (!in(from, 0, 3) || !in(to, 0, 3)) return -1;
        if (sheets[from] == null || sheets[to] == null) return -11;
        if (lane(sheets[from]) != lane(sheets[to])) return -12;
        try {
            System.arraycopy(sheets[from], i, sheets[to], j, n);
        } catch (IndexOutOfBoundsException e) {
            return -13;
        }
        return n;
    }
}
