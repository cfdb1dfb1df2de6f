import java.util.ArrayList;
import java.util.List;
import java.util.Random;

/** Runs of 512 drawn calls on new objects, each answer compared with the slow model's. */
public final class ModelTest {
    private static final int RUNS = 1500;
    private static final int CALLS = 512;
    private static final String[] NAMES = {
        "angel", "figure", "tune", "hush", "of", "leads", "at", "seen", "type", "ring", "count", "beats", "draught", "leave",
        "come", "drift", "undo", "seed", "ahead", "then", "back", "been", "shortest", "sorts", "apart", "chance", "image",
        "restore", "counts", "steps", "film", "sheet", "drop", "item", "copy"};
    /** How often each call is drawn, in the order of the names. */
    private static final int[] WEIGHTS = {
        9, 8, 10, 1, 6, 4, 6, 5, 6, 1, 12, 10, 5, 4,
        8, 8, 14, 3, 8, 8, 5, 5, 8, 2, 5, 4, 2,
        2, 14, 16, 8, 5, 1, 14, 8};

    private final Random random;
    private final PinAngels real = new PinAngels();
    private final SlowModel slow = new SlowModel();
    private final List<String> calls = new ArrayList<>();
    private int wrong = 0;

    private ModelTest(long seed) {
        random = new Random(seed);
    }

    public static void main(String[] args) {
        long answers = 0;
        int wrong = 0;
        for (int run = 0; run < RUNS && wrong == 0; run++) {
            ModelTest test = new ModelTest(run);
            test.run(run);
            wrong += test.wrong;
            answers += test.calls.size();
        }
        System.out.println("ModelTest: " + answers + " answers, " + wrong + " not as due");
        if (wrong != 0) {
            System.exit(1);
        }
    }

    private void run(int run) {
        int total = 0;
        for (int weight : WEIGHTS) total += weight;
        // In some runs what a new object has is told first by a tape, in others call by call.
        if (run % 2 == 0) tape();
        // In some the BEAT is near its last; no ring is told there, for it would be BEAT 0 again.
        boolean late = run % 10 == 4;
        if (late) goLate();
        while (calls.size() < CALLS && wrong == 0) {
            if (!late && random.nextInt(60) == 0) {
                tape();
                continue;
            }
            int pick = random.nextInt(total);
            int name = 0;
            while (pick >= WEIGHTS[name]) pick -= WEIGHTS[name++];
            call(NAMES[name]);
        }
        if (wrong != 0) {
            System.out.println("run " + run + ":");
            for (String call : calls) System.out.println("  " + call);
        }
    }

    private void goLate() {
        for (int t = 0; t < 249; t++) {
            check("beats(40)", real.beats(40), slow.beats(40));
        }
        int n = 1 + random.nextInt(39);
        check("beats(" + n + ")", real.beats(n), slow.beats(n));
        check("image()", real.image(), slow.image());
    }

    /** A number from a to b; now and then one just beyond, or far beyond. */
    private int num(int a, int b) {
        int r = random.nextInt(70);
        if (r == 0) return a - 1;
        if (r == 1) return b + 1;
        if (r == 2) return random.nextInt();
        return a + (int) (random.nextDouble() * ((long) b - a + 1));
    }

    private int angelNum() {
        int angels = slow.count(0);
        return angels == 0 ? num(0, 1) : num(0, angels - 1);
    }

    private int figureNum() {
        int figures = slow.count(1);
        return figures == 0 ? num(0, 1) : num(0, figures - 1);
    }

    /** One of few sheets of few lanes, so that most that is asked of them is there. */
    private int sheetNum() {
        return random.nextInt(8) == 0 ? num(0, 3) : random.nextInt(2);
    }

    private int laneNum() {
        return random.nextInt(10) == 0 ? num(0, 3) : 2;
    }

    private int beatsAhead() {
        switch (random.nextInt(4)) {
            case 0: return num(0, 40);
            case 1: return num(0, 2000);
            case 2: return 2000000000 - random.nextInt(50) + random.nextInt(40);
            default: return num(0, 2000000000);
        }
    }

    private void tape() {
        StringBuilder b = new StringBuilder();
        for (int p = 0; p < 8; p++) b.append(random.nextInt(2) == 0 ? '*' : '.');
        int figures = random.nextInt(8) == 0 ? 0 : 1 + random.nextInt(5);
        for (int f = 0; f < figures; f++) {
            b.append(f == 0 ? ';' : ',').append("remhc".charAt(random.nextInt(5))).append(random.nextInt(8));
        }
        if (figures > 0 && random.nextInt(5) != 0) {
            b.append(':');
            int length = 1 + random.nextInt(16);
            for (int t = 0; t < length; t++) b.append(random.nextInt(figures));
        }
        spoil(b);
        for (int i = 0; i < b.length() && calls.size() < CALLS && wrong == 0; i++) {
            int c = b.charAt(i);
            check("type(" + c + ")", real.type(c), slow.type(c));
        }
        if (calls.size() < CALLS && wrong == 0) check("ring()", real.ring(), slow.ring());
    }

    private void spoil(StringBuilder b) {
        while (random.nextInt(3) == 0) b.insert(random.nextInt(b.length() + 1), ' ');
        int how = random.nextInt(12);
        String some = ".*;:,remhc0123456789x~";
        char c = some.charAt(random.nextInt(some.length()));
        if (how == 0) b.insert(random.nextInt(b.length() + 1), c);
        if (how == 1) b.setCharAt(random.nextInt(b.length()), c);
        if (how == 2) b.deleteCharAt(random.nextInt(b.length()));
        if (how == 3) b.setLength(random.nextInt(b.length()));
        if (how == 4) b.append(c);
    }

    private void check(String call, int got, int want) {
        calls.add(call + " = " + got);
        if (got != want) {
            wrong++;
            System.out.println(call + " answered " + got + ", due is " + want);
        }
    }

    private void call(String name) {
        switch (name) {
            case "angel": { int p = num(0, 7); check("angel(" + p + ")", real.angel(p), slow.angel(p)); break; }
            case "figure": {
                int k = num(0, 4), f = num(0, 7);
                check("figure(" + k + "," + f + ")", real.figure(k, f), slow.figure(k, f));
                break;
            }
            case "tune": { int f = figureNum(); check("tune(" + f + ")", real.tune(f), slow.tune(f)); break; }
            case "hush": check("hush()", real.hush(), slow.hush()); break;
            case "of": {
                int f = figureNum(), w = num(0, 4);
                check("of(" + f + "," + w + ")", real.of(f, w), slow.of(f, w));
                break;
            }
            case "leads": {
                int f = figureNum(), p = num(0, 7);
                check("leads(" + f + "," + p + ")", real.leads(f, p), slow.leads(f, p));
                break;
            }
            case "at": { int a = angelNum(); check("at(" + a + ")", real.at(a), slow.at(a)); break; }
            case "seen": { int p = num(0, 7); check("seen(" + p + ")", real.seen(p), slow.seen(p)); break; }
            case "type": { int c = num(32, 126); check("type(" + c + ")", real.type(c), slow.type(c)); break; }
            case "ring": check("ring()", real.ring(), slow.ring()); break;
            case "count": { int w = num(0, 7); check("count(" + w + ")", real.count(w), slow.count(w)); break; }
            case "beats": {
                int n = random.nextInt(3) == 0 ? num(1, 40) : num(1, 4);
                check("beats(" + n + ")", real.beats(n), slow.beats(n));
                break;
            }
            case "draught": { int n = num(1, 7); check("draught(" + n + ")", real.draught(n), slow.draught(n)); break; }
            case "leave": { int a = angelNum(); check("leave(" + a + ")", real.leave(a), slow.leave(a)); break; }
            case "come": {
                int a = angelNum(), p = num(0, 7);
                check("come(" + a + "," + p + ")", real.come(a, p), slow.come(a, p));
                break;
            }
            case "drift": {
                int n = random.nextInt(3) == 0 ? num(1, 40) : num(1, 4);
                check("drift(" + n + ")", real.drift(n), slow.drift(n));
                break;
            }
            case "undo": check("undo()", real.undo(), slow.undo()); break;
            case "seed": { int v = num(0, Integer.MAX_VALUE); check("seed(" + v + ")", real.seed(v), slow.seed(v)); break; }
            default: foretold(name);
        }
    }

    private void foretold(String name) {
        switch (name) {
            case "ahead": {
                int a = angelNum(), n = beatsAhead();
                check("ahead(" + a + "," + n + ")", real.ahead(a, n), slow.ahead(a, n));
                break;
            }
            case "then": {
                int p = num(0, 7), n = beatsAhead(), w = num(0, 1);
                check("then(" + p + "," + n + "," + w + ")", real.then(p, n, w), slow.then(p, n, w));
                break;
            }
            case "back": {
                int a = random.nextInt(3) == 0 ? -1 : angelNum();
                check("back(" + a + ")", real.back(a), slow.back(a));
                break;
            }
            case "been": { int a = angelNum(); check("been(" + a + ")", real.been(a), slow.been(a)); break; }
            case "shortest": {
                int s = random.nextInt(3) == 0 ? num(0, 255) : somewhere(), k = num(-1, 3);
                check("shortest(" + s + "," + k + ")", real.shortest(s, k), slow.shortest(s, k));
                break;
            }
            case "sorts": check("sorts()", real.sorts(), slow.sorts()); break;
            case "apart": {
                int a = angelNum(), b = angelNum(), w = num(0, 1);
                check("apart(" + a + "," + b + "," + w + ")", real.apart(a, b, w), slow.apart(a, b, w));
                break;
            }
            case "chance": {
                int a = angelNum(), p = num(0, 7), n = random.nextInt(6) == 0 ? num(0, 8) : num(0, 5), w = num(0, 1);
                check("chance(" + a + "," + p + "," + n + "," + w + ")", real.chance(a, p, n, w), slow.chance(a, p, n, w));
                break;
            }
            case "image": check("image()", real.image(), slow.image()); break;
            case "restore": check("restore()", real.restore(), slow.restore()); break;
            default: sheets(name);
        }
    }

    /** A set to which rows of figures lead, as often as not. */
    private int somewhere() {
        int set = slow.count(4);
        int figures = slow.count(1);
        for (int t = random.nextInt(6); t > 0 && figures > 0; t--) {
            int f = random.nextInt(figures);
            int next = 0;
            for (int p = 0; p < 8; p++) if ((set >> p & 1) != 0) next |= 1 << slow.leads(f, p);
            set = next;
        }
        return set;
    }

    private void sheets(String name) {
        int s = sheetNum(), l = laneNum(), i = num(0, 3), n = random.nextInt(3) == 0 ? num(1, 8) : num(1, 3);
        switch (name) {
            case "counts": {
                int p = num(0, 7), w = num(0, 2);
                check("counts(" + p + "," + s + "," + l + "," + i + "," + n + "," + w + ")",
                        real.counts(p, s, l, i, n, w), slow.counts(p, s, l, i, n, w));
                break;
            }
            case "steps": {
                int a = angelNum(), f = figureNum(), w = num(0, 1);
                check("steps(" + a + "," + f + "," + s + "," + l + "," + i + "," + n + "," + w + ")",
                        real.steps(a, f, s, l, i, n, w), slow.steps(a, f, s, l, i, n, w));
                break;
            }
            case "film": {
                int a = angelNum();
                int long24 = random.nextInt(4) == 0 ? num(1, 24) : n;
                check("film(" + a + "," + long24 + "," + s + "," + l + "," + i + ")",
                        real.film(a, long24, s, l, i), slow.film(a, long24, s, l, i));
                break;
            }
            case "sheet": {
                int size = random.nextInt(3) == 0 ? num(0, 24) : num(12, 24);
                check("sheet(" + s + "," + l + "," + size + ")", real.sheet(s, l, size), slow.sheet(s, l, size));
                break;
            }
            case "drop": check("drop(" + s + ")", real.drop(s), slow.drop(s)); break;
            case "item": {
                long v = random.nextInt(8) == 0 ? random.nextLong() : random.nextInt(8) == 0 ? 256L + n : random.nextInt(5);
                check("item(" + s + "," + l + "," + i + "," + v + ")", real.item(s, l, i, v), slow.item(s, l, i, v));
                break;
            }
            default: {
                int t = sheetNum(), j = num(0, 3), m = random.nextInt(3) == 0 ? num(0, 24) : n;
                check("copy(" + s + "," + i + "," + t + "," + j + "," + m + ")",
                        real.copy(s, i, t, j, m), slow.copy(s, i, t, j, m));
            }
        }
    }
}
