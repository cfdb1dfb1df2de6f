/**
 * Angels on the head of a pin: a ring of 8 places, up to 8 angels, up to 5 figures and a tune of them.
 * What each call answers is told, promise by promise, in the document DOC.md.
 */
public final class PinAngels {
    public static final int BAD = -1, NOT = -2, FULL = -3, NONE = -4, NULL = -11, CAST = -12, INDEX = -13, SIZE = -14;

    private static final int PLACES = 8;
    private static final int SETS = 256;
    private static final int MOST_ANGELS = 8;
    private static final int MOST_FIGURES = 5;
    private static final int MOST_TUNE = 16;
    private static final int MOST_KNOWN = 8;
    private static final int LAST_BEAT = 9999;
    private static final int MOST_BEATS = 40;
    private static final int MOST_FORETOLD = 2000000000;
    private static final int MOST_CHANCE = 8;
    private static final int MOST_TOLD = 8;
    private static final int FIRST_FAULT = -20;
    private static final int DRAW_BITS = 0x7fffffff;

    private static final int KINDS = 5;
    private static final int ROUND = 0;
    private static final int REEL = 1;
    private static final int MIRROR = 2;
    private static final int HALF = 3;
    private static final int CROSS = 4;

    private static final int SHEETS = 4;
    private static final int LANES = 4;
    private static final int BYTES = 0;
    private static final int SHORTS = 1;
    private static final int INTS = 2;
    private static final int MOST_ITEMS = 24;

    private final Ring now = new Ring();
    private final Ring kept = new Ring();
    /** A ring to try things on: what a tape tells before it is known to be whole, figures that might be. */
    private final Ring tried = new Ring();
    private final Tape tape = new Tape();
    private final Sheets sheets = new Sheets();
    private final Search search = new Search();
    private final int[] ways = new int[PLACES];
    private final int[] waysOn = new int[PLACES];
    private boolean imaged;

    public PinAngels() {
        imaged = false;
    }

    // ---- 1 angels, figures, the tune

    public int angel(int place) {
        if (!isPlace(place)) {
            return BAD;
        }
        if (now.angels >= MOST_ANGELS) {
            return FULL;
        }
        if (holds(now.standing(), place)) {
            return NOT;
        }
        now.past.forget();
        return now.addAngel(place);
    }

    public int figure(int kind, int far) {
        if (!within(kind, 0, KINDS - 1) || !isPlace(far)) {
            return BAD;
        }
        if (now.figures >= MOST_FIGURES) {
            return FULL;
        }
        now.past.forget();
        return now.addFigure(kind, far);
    }

    public int tune(int figure) {
        if (!now.hasFigure(figure)) {
            return BAD;
        }
        if (now.length >= MOST_TUNE) {
            return FULL;
        }
        now.past.forget();
        return now.addToTune(figure);
    }

    /** No figures at all are a tune too, told in place of the elder one: so nothing may be undone behind it. */
    public int hush() {
        now.past.forget();
        int was = now.length;
        now.length = 0;
        return was;
    }

    public int of(int figure, int what) {
        if (!now.hasFigure(figure)) {
            return BAD;
        }
        switch (what) {
            case 0:
                return now.kinds[figure];
            case 1:
                return now.fars[figure];
            case 2:
                return now.orderOf(figure);
            case 3:
                return now.keptBy(figure);
            case 4:
                return now.leastLike(figure);
            default:
                return BAD;
        }
    }

    public int leads(int figure, int place) {
        if (!now.hasFigure(figure) || !isPlace(place)) {
            return BAD;
        }
        return now.ledBy(figure, place);
    }

    public int at(int angel) {
        if (!now.hasAngel(angel)) {
            return BAD;
        }
        return now.places[angel];
    }

    public int seen(int place) {
        if (!isPlace(place)) {
            return BAD;
        }
        return seenFrom(now.standing(), place);
    }

    public int type(int letter) {
        if (!within(letter, Tape.BLANK, Tape.LAST_LETTER)) {
            return BAD;
        }
        if (tape.isFull()) {
            return FULL;
        }
        return tape.put(letter);
    }

    public int ring() {
        boolean whole = tape.readInto(tried);
        int fault = FIRST_FAULT - tape.spot;
        tape.wipe();
        if (!whole) {
            return fault;
        }
        tried.draw = now.draw;
        now.becomeLike(tried);
        return now.angels;
    }

    public int count(int what) {
        switch (what) {
            case 0:
                return now.angels;
            case 1:
                return now.figures;
            case 2:
                return now.length;
            case 3:
                return now.beat;
            case 4:
                return now.standing();
            case 5:
                return now.goneOnes();
            case 6:
                return now.figureOfBeat(now.beat);
            case 7:
                return now.past.known;
            default:
                return BAD;
        }
    }

    // ---- what is done

    public int beats(int n) {
        int refused = refusedBeats(n);
        if (refused < 0) {
            return refused;
        }
        for (int t = 0; t < n; t++) {
            now.past.note(now);
            now.dance();
        }
        return now.standing();
    }

    public int draught(int n) {
        if (!within(n, 1, PLACES - 1)) {
            return BAD;
        }
        now.past.note(now);
        now.blow(n);
        return now.standing();
    }

    public int leave(int angel) {
        if (!now.hasAngel(angel)) {
            return BAD;
        }
        int was = now.places[angel];
        if (was == NONE) {
            return NOT;
        }
        now.past.note(now);
        now.places[angel] = NONE;
        return was;
    }

    public int come(int angel, int place) {
        if (!now.hasAngel(angel) || !isPlace(place)) {
            return BAD;
        }
        if (now.places[angel] != NONE || holds(now.standing(), place)) {
            return NOT;
        }
        now.past.note(now);
        now.places[angel] = place;
        return Integer.bitCount(now.standing());
    }

    public int drift(int n) {
        int refused = refusedBeats(n);
        if (refused < 0) {
            return refused;
        }
        for (int t = 0; t < n; t++) {
            now.past.note(now);
            now.drawAndBlow();
            now.dance();
        }
        return now.standing();
    }

    public int undo() {
        if (now.past.known <= 0) {
            return NONE;
        }
        now.past.bringBack(now);
        return now.past.known;
    }

    public int seed(int v) {
        if (v < 0) {
            return BAD;
        }
        int was = now.draw;
        now.draw = v;
        return was;
    }

    // ---- 2 foretold

    public int ahead(int angel, int n) {
        if (!now.hasAngel(angel) || !within(n, 0, MOST_FORETOLD)) {
            return BAD;
        }
        return now.placeBehind(now.places[angel], n);
    }

    public int then(int place, int n, int what) {
        if (!isPlace(place) || !within(n, 0, MOST_FORETOLD) || !within(what, 0, 1)) {
            return BAD;
        }
        int standing = 0;
        int who = NONE;
        for (int a = 0; a < now.angels; a++) {
            int p = now.placeBehind(now.places[a], n);
            standing |= bitOf(p);
            if (p == place) {
                who = a;
            }
        }
        return what == 0 ? who : seenFrom(standing, place);
    }

    public int back(int angel) {
        if (angel == -1) {
            return now.length * roundsTillAllBack();
        }
        if (!now.hasAngel(angel)) {
            return BAD;
        }
        return now.length * now.roundsTillBack(now.places[angel]);
    }

    public int been(int angel) {
        if (!now.hasAngel(angel)) {
            return BAD;
        }
        int p = now.places[angel];
        int been = bitOf(p);
        // Behind 8 rounds of the tune at most a place comes back, and all goes on as before.
        for (int t = 0; t < PLACES * now.length; t++) {
            p = now.goesOn(p, now.beat + t);
            been |= bitOf(p);
        }
        return been;
    }

    public int shortest(int places, int k) {
        if (!within(places, 0, SETS - 1) || k < -1) {
            return BAD;
        }
        search.explore(now, now.standing());
        return k == -1 ? search.howFar(places) : search.figureOnWay(places, k);
    }

    public int sorts() {
        search.explore(now, now.standing());
        return search.reached;
    }

    public int apart(int angel, int other, int what) {
        if (!now.hasAngel(angel) || !now.hasAngel(other) || angel == other || !within(what, 0, 1)) {
            return BAD;
        }
        if (now.places[angel] == NONE || now.places[other] == NONE) {
            return NOT;
        }
        // How far two are from one another is told by the set of their places alone.
        search.explore(now, bitOf(now.places[angel]) | bitOf(now.places[other]));
        int pair = search.widestPair();
        return what == 0 ? search.howFar(pair) : span(pair);
    }

    public int chance(int angel, int place, int n, int what) {
        if (!now.hasAngel(angel) || !isPlace(place) || !within(n, 0, MOST_CHANCE) || !within(what, 0, 1)) {
            return BAD;
        }
        if (now.places[angel] == NONE || now.figures <= 0) {
            return NOT;
        }
        countWays(now.places[angel], n);
        int all = 1;
        for (int t = 0; t < n; t++) {
            all *= now.figures;
        }
        int common = greatestCommon(ways[place], all);
        if (common <= 0) {
            return NONE;
        }
        return (what == 0 ? ways[place] : all) / common;
    }

    public int image() {
        kept.becomeLike(now);
        imaged = true;
        return 1;
    }

    public int restore() {
        if (!imaged) {
            return NONE;
        }
        now.becomeLike(kept);
        return 1;
    }

    // ---- 3 sheets

    public int counts(int place, int sheet, int lane, int i, int n, int what) {
        if (!isPlace(place) || !isSheet(sheet) || !isLane(lane) || !within(n, 1, MOST_TOLD) || !within(what, 0, 2)) {
            return BAD;
        }
        int refused = sheets.refused(sheet, lane, i, n);
        if (refused < 0) {
            return refused;
        }
        int fitting = 0;
        int least = NONE;
        int most = NONE;
        for (int set = 0; set < SETS; set++) {
            if (isSeenAsTold(set, place, sheet, i, n)) {
                int size = Integer.bitCount(set);
                fitting++;
                least = least == NONE ? size : Math.min(least, size);
                most = Math.max(most, size);
            }
        }
        return what == 0 ? fitting : what == 1 ? least : most;
    }

    public int steps(int angel, int figure, int sheet, int lane, int i, int n, int what) {
        if (!now.hasAngel(angel) || !now.hasFigure(figure) || !isSheet(sheet) || !isLane(lane)) {
            return BAD;
        }
        if (!within(n, 1, MOST_TOLD) || !within(what, 0, 1)) {
            return BAD;
        }
        int refused = sheets.refused(sheet, lane, i, n);
        if (refused < 0) {
            return refused;
        }
        if (now.places[angel] == NONE) {
            return NOT;
        }
        tried.becomeLike(now);
        int fitting = 0;
        int choices = what == 0 ? KINDS : PLACES;
        for (int choice = 0; choice < choices; choice++) {
            if (what == 0) {
                tried.tell(figure, choice, now.fars[figure]);
            } else {
                tried.tell(figure, now.kinds[figure], choice);
            }
            if (goesAsTold(tried, angel, sheet, i, n)) {
                fitting |= 1 << choice;
            }
        }
        return fitting;
    }

    public int film(int angel, int n, int sheet, int lane, int i) {
        if (!now.hasAngel(angel) || !within(n, 1, MOST_ITEMS) || !isSheet(sheet) || !isLane(lane)) {
            return BAD;
        }
        int refused = sheets.refused(sheet, lane, i, n);
        if (refused < 0) {
            return refused;
        }
        int p = now.places[angel];
        for (int t = 0; t < n; t++) {
            p = now.goesOn(p, now.beat + t);
            sheets.put(sheet, i + t, p);
        }
        return n;
    }

    public int sheet(int sheet, int lane, int n) {
        if (!isSheet(sheet) || !isLane(lane) || n > MOST_ITEMS) {
            return BAD;
        }
        if (n < 0) {
            return SIZE;
        }
        sheets.renew(sheet, lane, n);
        return n;
    }

    public int drop(int sheet) {
        if (!isSheet(sheet)) {
            return BAD;
        }
        if (!sheets.isThere(sheet)) {
            return NULL;
        }
        return sheets.takeAway(sheet);
    }

    public int item(int sheet, int lane, int i, long v) {
        if (!isSheet(sheet) || !isLane(lane)) {
            return BAD;
        }
        int refused = sheets.refused(sheet, lane, i, 1);
        if (refused < 0) {
            return refused;
        }
        sheets.put(sheet, i, v);
        return 1;
    }

    public int copy(int from, int i, int to, int j, int n) {
        if (!isSheet(from) || !isSheet(to)) {
            return BAD;
        }
        if (!sheets.isThere(from) || !sheets.isThere(to)) {
            return NULL;
        }
        if (sheets.lanes[from] != sheets.lanes[to]) {
            return CAST;
        }
        if (!sheets.hasItems(from, i, n) || !sheets.hasItems(to, j, n)) {
            return INDEX;
        }
        sheets.carry(from, i, to, j, n);
        return n;
    }

    // ---- what the calls have in common

    private int refusedBeats(int n) {
        if (!within(n, 1, MOST_BEATS)) {
            return BAD;
        }
        return now.beat + n > LAST_BEAT ? FULL : 0;
    }

    private int roundsTillAllBack() {
        int rounds = 1;
        for (int a = 0; a < now.angels; a++) {
            int own = now.roundsTillBack(now.places[a]);
            int common = greatestCommon(rounds, own);
            if (common > 0) {
                rounds = rounds / common * own;
            }
        }
        return rounds;
    }

    /** Counts for each place the rows of n figures that lead there. */
    private void countWays(int from, int n) {
        for (int p = 0; p < PLACES; p++) {
            ways[p] = p == from ? 1 : 0;
        }
        for (int t = 0; t < n; t++) {
            countWaysOn();
        }
    }

    private void countWaysOn() {
        for (int p = 0; p < PLACES; p++) {
            waysOn[p] = 0;
        }
        for (int f = 0; f < now.figures; f++) {
            for (int p = 0; p < PLACES; p++) {
                waysOn[now.ledBy(f, p)] += ways[p];
            }
        }
        for (int p = 0; p < PLACES; p++) {
            ways[p] = waysOn[p];
        }
    }

    private boolean isSeenAsTold(int set, int place, int sheet, int i, int n) {
        for (int t = 0; t < n; t++) {
            if (sheets.itemOf(sheet, i + t) != seenFrom(set, place + t)) {
                return false;
            }
        }
        return true;
    }

    private boolean goesAsTold(Ring ring, int angel, int sheet, int i, int n) {
        int p = ring.places[angel];
        for (int t = 0; t < n; t++) {
            p = ring.goesOn(p, ring.beat + t);
            if (sheets.itemOf(sheet, i + t) != p) {
                return false;
            }
        }
        return true;
    }

    private static boolean within(int n, int least, int most) {
        return n >= least && n <= most;
    }

    private static boolean isPlace(int p) {
        return within(p, 0, PLACES - 1);
    }

    private static boolean isSheet(int s) {
        return within(s, 0, SHEETS - 1);
    }

    private static boolean isLane(int l) {
        return within(l, 0, LANES - 1);
    }

    /** A place as a set; one who is GONE is at none. */
    private static int bitOf(int place) {
        return isPlace(place) ? 1 << place : 0;
    }

    private static int leftBy8(int n) {
        return n & (PLACES - 1);
    }

    private static boolean holds(int set, int place) {
        return (set >> leftBy8(place) & 1) != 0;
    }

    /** By Euclid's way; numbers up to 5 to the 8th need far fewer than 64 turns. */
    private static int greatestCommon(int a, int b) {
        int x = a;
        int y = b;
        for (int turn = 0; turn < 64 && y != 0; turn++) {
            int rest = x % y;
            x = y;
            y = rest;
        }
        return x;
    }

    /** The ring is turned till the place is bit 0; one at the place itself hides nobody, so it is told by itself. */
    private static int seenFrom(int set, int place) {
        int turn = leftBy8(place);
        int turned = set >> turn | set << PLACES - turn;
        int onwards = turned & 0b00001110;
        int backwards = turned & 0b11100000;
        int hidden = onwards << 1 | backwards >> 1;
        return Integer.bitCount((turned & 1 | onwards | backwards) & ~hidden);
    }

    /** How far the two places of a pair are from one another, the shorter way round. */
    private static int span(int pair) {
        for (int far = 1; far <= PLACES / 2; far++) {
            for (int p = 0; p < PLACES; p++) {
                if (holds(pair, p) && holds(pair, p + far)) {
                    return far;
                }
            }
        }
        return 0;
    }

    private static int lead(int kind, int far, int place) {
        int round = leftBy8(place + far);
        int reel = leftBy8(round + far);
        int mirror = leftBy8(PLACES - place + far);
        switch (kind) {
            case ROUND:
                return round;
            case REEL:
                return reel;
            case MIRROR:
                return mirror;
            case HALF:
                return place % 2 == 0 ? reel : place;
            default:
                return mirror % 4 == 0 ? 4 - mirror : mirror;
        }
    }

    /** Angels, figures, the tune, the beat, the draw, and what may be undone. */
    private static final class Ring {
        /** Where the angels are; NONE: GONE. */
        final int[] places = new int[MOST_ANGELS];
        final int[] kinds = new int[MOST_FIGURES];
        final int[] fars = new int[MOST_FIGURES];
        /** Where each figure leads from each place, 8 to a figure. */
        private final int[] led = new int[MOST_FIGURES * PLACES];
        final int[] melody = new int[MOST_TUNE];
        final Past past = new Past();
        int angels;
        int figures;
        int length;
        int beat;
        int draw = 1;

        void clear() {
            angels = 0;
            figures = 0;
            length = 0;
            beat = 0;
            past.forget();
        }

        void becomeLike(Ring other) {
            System.arraycopy(other.places, 0, places, 0, MOST_ANGELS);
            System.arraycopy(other.kinds, 0, kinds, 0, MOST_FIGURES);
            System.arraycopy(other.fars, 0, fars, 0, MOST_FIGURES);
            System.arraycopy(other.led, 0, led, 0, MOST_FIGURES * PLACES);
            System.arraycopy(other.melody, 0, melody, 0, MOST_TUNE);
            angels = other.angels;
            figures = other.figures;
            length = other.length;
            beat = other.beat;
            draw = other.draw;
            past.becomeLike(other.past);
        }

        boolean hasAngel(int a) {
            return a >= 0 && a < angels;
        }

        boolean hasFigure(int f) {
            return f >= 0 && f < figures;
        }

        int addAngel(int place) {
            if (angels >= MOST_ANGELS) {
                return FULL;
            }
            places[angels] = place;
            angels++;
            return angels - 1;
        }

        int addFigure(int kind, int far) {
            if (figures >= MOST_FIGURES) {
                return FULL;
            }
            tell(figures, kind, far);
            figures++;
            return figures - 1;
        }

        void tell(int figure, int kind, int far) {
            kinds[figure] = kind;
            fars[figure] = far;
            for (int p = 0; p < PLACES; p++) {
                led[figure * PLACES + p] = lead(kind, far, p);
            }
        }

        int addToTune(int figure) {
            if (length >= MOST_TUNE) {
                return FULL;
            }
            melody[length] = figure;
            length++;
            return length;
        }

        int standing() {
            int set = 0;
            for (int a = 0; a < angels; a++) {
                set |= bitOf(places[a]);
            }
            return set;
        }

        int goneOnes() {
            int set = 0;
            for (int a = 0; a < angels; a++) {
                if (places[a] == NONE) {
                    set |= 1 << a;
                }
            }
            return set;
        }

        int ledBy(int figure, int place) {
            return led[figure * PLACES + place];
        }

        int setLedBy(int figure, int set) {
            int led = 0;
            for (int p = 0; p < PLACES; p++) {
                if (holds(set, p)) {
                    led |= bitOf(ledBy(figure, p));
                }
            }
            return led;
        }

        int orderOf(int figure) {
            int order = 1;
            for (int p = 0; p < PLACES; p++) {
                int own = turnsTillBack(figure, p);
                int common = greatestCommon(order, own);
                if (common > 0) {
                    order = order / common * own;
                }
            }
            return order;
        }

        int turnsTillBack(int figure, int place) {
            int turns = 1;
            int p = ledBy(figure, place);
            while (turns < PLACES && p != place) {
                p = ledBy(figure, p);
                turns++;
            }
            return turns;
        }

        int keptBy(int figure) {
            int set = 0;
            for (int p = 0; p < PLACES; p++) {
                if (ledBy(figure, p) == p) {
                    set |= bitOf(p);
                }
            }
            return set;
        }

        int leastLike(int figure) {
            for (int f = 0; f < figure; f++) {
                if (leadAlike(f, figure)) {
                    return f;
                }
            }
            return figure;
        }

        boolean leadAlike(int f, int g) {
            for (int p = 0; p < PLACES; p++) {
                if (ledBy(f, p) != ledBy(g, p)) {
                    return false;
                }
            }
            return true;
        }

        int figureOfBeat(int which) {
            return length <= 0 ? NONE : melody[which % length];
        }

        /** Where one who is at a place (or GONE) is behind the beat of that number. */
        int goesOn(int place, int which) {
            if (length <= 0 || place == NONE) {
                return place;
            }
            return ledBy(melody[which % length], place);
        }

        void dance() {
            for (int a = 0; a < angels; a++) {
                places[a] = goesOn(places[a], beat);
            }
            beat++;
        }

        void blow(int n) {
            for (int a = 0; a < angels; a++) {
                if (places[a] != NONE) {
                    places[a] = leftBy8(places[a] + n);
                }
            }
        }

        void drawAndBlow() {
            draw = (int) ((draw * 1103515245L + 12345L) & DRAW_BITS);
            if (draw / 65536 % 4 == 0) {
                blow(1 + draw / 128 % 7);
            }
        }

        int walk(int place, int n) {
            int p = place;
            for (int t = 0; t < n; t++) {
                p = goesOn(p, beat + t);
            }
            return p;
        }

        /** Rounds of the whole tune, from this beat on; no place needs more than 8. */
        int roundsTillBack(int place) {
            int rounds = 1;
            int p = walk(place, length);
            while (rounds < PLACES && p != place) {
                p = walk(p, length);
                rounds++;
            }
            return rounds;
        }

        int placeBehind(int place, int n) {
            int cycle = roundsTillBack(place);
            if (length <= 0 || cycle <= 0) {
                return place;
            }
            int rounds = n / length % cycle;
            int p = place;
            for (int r = 0; r < rounds; r++) {
                p = walk(p, length);
            }
            return walk(p, n % length);
        }
    }

    /** The latest 8 states, in slots that are used again in turn. */
    private static final class Past {
        final int[] places = new int[MOST_KNOWN * MOST_ANGELS];
        final int[] atBeat = new int[MOST_KNOWN];
        final int[] draws = new int[MOST_KNOWN];
        /** The slot that the next state comes to. */
        int slot;
        int known;

        void forget() {
            known = 0;
        }

        void becomeLike(Past other) {
            System.arraycopy(other.places, 0, places, 0, MOST_KNOWN * MOST_ANGELS);
            System.arraycopy(other.atBeat, 0, atBeat, 0, MOST_KNOWN);
            System.arraycopy(other.draws, 0, draws, 0, MOST_KNOWN);
            slot = other.slot;
            known = other.known;
        }

        void note(Ring ring) {
            System.arraycopy(ring.places, 0, places, slot * MOST_ANGELS, MOST_ANGELS);
            atBeat[slot] = ring.beat;
            draws[slot] = ring.draw;
            slot = (slot + 1) % MOST_KNOWN;
            known = Math.min(known + 1, MOST_KNOWN);
        }

        void bringBack(Ring ring) {
            slot = (slot + MOST_KNOWN - 1) % MOST_KNOWN;
            known--;
            System.arraycopy(places, slot * MOST_ANGELS, ring.places, 0, MOST_ANGELS);
            ring.beat = atBeat[slot];
            ring.draw = draws[slot];
        }
    }

    /** Which sets of places can be come to by figures, and how. */
    private static final class Search {
        /** By how many figures a set is come to, at least; NONE: by no row of them. */
        private final int[] far = new int[SETS];
        private final int[] from = new int[SETS];
        private final int[] by = new int[SETS];
        private final int[] inTurn = new int[SETS];
        int reached;

        /** Sets are come to in the order of their first rows, so the first way found to one is the one asked for. */
        void explore(Ring ring, int start) {
            for (int set = 0; set < SETS; set++) {
                far[set] = NONE;
            }
            far[start] = 0;
            inTurn[0] = start;
            reached = 1;
            for (int next = 0; next < reached && next < SETS; next++) {
                for (int f = 0; f < ring.figures; f++) {
                    comeTo(ring.setLedBy(f, inTurn[next]), inTurn[next], f);
                }
            }
        }

        private void comeTo(int set, int before, int figure) {
            if (far[set] != NONE || reached >= SETS) {
                return;
            }
            far[set] = far[before] + 1;
            from[set] = before;
            by[set] = figure;
            inTurn[reached] = set;
            reached++;
        }

        int howFar(int set) {
            return far[set];
        }

        int figureOnWay(int set, int k) {
            if (far[set] == NONE || k >= far[set]) {
                return NONE;
            }
            int here = set;
            for (int left = far[set] - 1; left > k; left--) {
                here = from[here];
            }
            return by[here];
        }

        /** Of the sets come to, which are pairs, the first of the widest. */
        int widestPair() {
            int widest = inTurn[0];
            for (int next = 1; next < reached; next++) {
                if (span(inTurn[next]) > span(widest)) {
                    widest = inTurn[next];
                }
            }
            return widest;
        }
    }

    /** Letters as they were typed, and how a ring is read from them. */
    private static final class Tape {
        static final int BLANK = 32;
        static final int LAST_LETTER = 126;
        private static final int MOST_LETTERS = 60;
        private static final int END = 0;

        private final int[] letters = new int[MOST_LETTERS];
        private int typed;
        /** The place of the letter that is read next. */
        int spot;

        boolean isFull() {
            return typed >= MOST_LETTERS;
        }

        int put(int letter) {
            if (typed < MOST_LETTERS) {
                letters[typed] = letter;
                typed++;
            }
            return typed;
        }

        void wipe() {
            typed = 0;
        }

        /** Whether the tape is a ring; if it is not, spot is the place of its fault. */
        boolean readInto(Ring told) {
            spot = 0;
            told.clear();
            return readPlaces(told) && readFigures(told) && next() == END;
        }

        private boolean readPlaces(Ring told) {
            for (int p = 0; p < PLACES; p++) {
                if (takes('*')) {
                    told.addAngel(p);
                } else if (!takes('.')) {
                    return false;
                }
            }
            return true;
        }

        private boolean readFigures(Ring told) {
            if (!takes(';')) {
                return true;
            }
            for (int f = 0; f < MOST_FIGURES; f++) {
                if (f > 0 && !takes(',')) {
                    break;
                }
                if (!readFigure(told)) {
                    return false;
                }
            }
            return readTune(told);
        }

        private boolean readFigure(Ring told) {
            int kind = kindOf(next());
            if (kind == NONE) {
                return false;
            }
            spot++;
            int far = takeDigit(PLACES);
            if (far == NONE) {
                return false;
            }
            told.addFigure(kind, far);
            return true;
        }

        private boolean readTune(Ring told) {
            if (!takes(':')) {
                return true;
            }
            for (int t = 0; t < MOST_TUNE; t++) {
                int figure = takeDigit(told.figures);
                if (figure == NONE) {
                    break;
                }
                told.addToTune(figure);
            }
            return told.length > 0;
        }

        private int next() {
            while (spot < typed && letters[spot] == BLANK) {
                spot++;
            }
            return spot < typed ? letters[spot] : END;
        }

        private boolean takes(int letter) {
            if (next() != letter) {
                return false;
            }
            spot++;
            return true;
        }

        private int takeDigit(int below) {
            int digit = next() - '0';
            if (digit < 0 || digit >= below) {
                return NONE;
            }
            spot++;
            return digit;
        }

        private static int kindOf(int letter) {
            switch (letter) {
                case 'r':
                    return ROUND;
                case 'e':
                    return REEL;
                case 'm':
                    return MIRROR;
                case 'h':
                    return HALF;
                case 'c':
                    return CROSS;
                default:
                    return NONE;
            }
        }
    }

    /** Four rows that may be missing, side by side in one; their items are cut to their lane as they come. */
    private static final class Sheets {
        /** The lane of each; NONE: nothing is there. */
        final int[] lanes = new int[]{NONE, NONE, NONE, NONE};
        private final int[] sizes = new int[SHEETS];
        private final long[] items = new long[SHEETS * MOST_ITEMS];

        boolean isThere(int sheet) {
            return lanes[sheet] != NONE;
        }

        boolean hasItems(int sheet, int i, int n) {
            return n >= 0 && i >= 0 && i <= sizes[sheet] && n <= sizes[sheet] - i;
        }

        /** What the machine would find in n items from i on of a row of a lane: NULL, CAST, INDEX, or 0. */
        int refused(int sheet, int lane, int i, int n) {
            if (!isThere(sheet)) {
                return NULL;
            }
            if (lanes[sheet] != lane) {
                return CAST;
            }
            return hasItems(sheet, i, n) ? 0 : INDEX;
        }

        void renew(int sheet, int lane, int n) {
            lanes[sheet] = lane;
            sizes[sheet] = n;
            for (int i = 0; i < n; i++) {
                items[sheet * MOST_ITEMS + i] = 0;
            }
        }

        int takeAway(int sheet) {
            lanes[sheet] = NONE;
            return sizes[sheet];
        }

        long itemOf(int sheet, int i) {
            return items[sheet * MOST_ITEMS + i];
        }

        void put(int sheet, int i, long v) {
            items[sheet * MOST_ITEMS + i] = lowestBits(lanes[sheet], v);
        }

        void carry(int from, int i, int to, int j, int n) {
            System.arraycopy(items, from * MOST_ITEMS + i, items, to * MOST_ITEMS + j, n);
        }

        private static long lowestBits(int lane, long v) {
            switch (lane) {
                case BYTES:
                    return (byte) v;
                case SHORTS:
                    return (short) v;
                case INTS:
                    return (int) v;
                default:
                    return v;
            }
        }
    }
}
