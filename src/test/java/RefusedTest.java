/**
 * Each answer below 0 that a call names; where two of them fit, that the first is given ("of several the first that a
 * call names"; "NULL, CAST, INDEX, SIZE in this order"); "What is refused changes nothing, but as told".
 */
public final class RefusedTest {
    private static final int BAD = PinAngels.BAD;
    private static final int NOT = PinAngels.NOT;
    private static final int FULL = PinAngels.FULL;
    private static final int NONE = PinAngels.NONE;
    private static final int NULL = PinAngels.NULL;
    private static final int CAST = PinAngels.CAST;
    private static final int INDEX = PinAngels.INDEX;
    private static final int SIZE = PinAngels.SIZE;

    /** Numbers for one place in a call: refused ones, then one that is taken. */
    private static final int[] PLACES = {-1, 8, 0};
    private static final int[] LANES = {-1, 4, 0, 1, 2, 3};
    private static final int[] SHEETS = {-1, 4, 0, 1, 2, 3};

    private static final Due due = new Due();

    public static void main(String[] args) {
        angels();
        figures();
        tunes();
        letters();
        faults();
        leftAndCome();
        lateBeats();
        nothingKnown();
        badAheadOfNone();
        apartAndChance();
        rowsRead();
        rowsFilmed();
        rowsPut();
        rowsMade();
        rowsCopied();
        askedChangesNothing();
        due.end("RefusedTest");
    }

    /** 2: "BAD; FULL: 8; NOT: one is there." */
    private static void angels() {
        Edges rich = new Edges(due, "rich", Made::rich);
        rich.changesNothing("angel(4): one is there", NOT, x -> x.angel(4));
        rich.changesNothing("angel(7): one is there", NOT, x -> x.angel(7));
        rich.answers("angel(2): who was there is GONE", 3, x -> x.angel(2));
        Edges full = new Edges(due, "full", Made::full);
        full.changesNothing("angel(-1): BAD ahead of FULL", BAD, x -> x.angel(-1));
        full.changesNothing("angel(8): BAD ahead of FULL", BAD, x -> x.angel(8));
        for (int p = 0; p < 8; p++) {
            int place = p;
            full.changesNothing("angel(" + p + "): FULL ahead of NOT", FULL, x -> x.angel(place));
        }
        Edges left = new Edges(due, "8, one GONE", () -> {
            PinAngels x = Due.told("********");
            x.leave(3);
            return x;
        });
        left.changesNothing("angel(3): none is there, but 8 are", FULL, x -> x.angel(3));
        Edges seven = new Edges(due, "7", () -> Due.told("*******."));
        seven.changesNothing("angel(6)", NOT, x -> x.angel(6));
        seven.answers("angel(7): the eighth", 7, x -> x.angel(7));
    }

    /** 3: "BAD; FULL: 5." */
    private static void figures() {
        Edges full = new Edges(due, "full", Made::full);
        full.changesNothing("figure(0, 0)", FULL, x -> x.figure(0, 0));
        full.changesNothing("figure(4, 7)", FULL, x -> x.figure(4, 7));
        full.changesNothing("figure(5, 0): BAD ahead of FULL", BAD, x -> x.figure(5, 0));
        full.changesNothing("figure(-1, 0): BAD ahead of FULL", BAD, x -> x.figure(-1, 0));
        full.changesNothing("figure(0, 8): BAD ahead of FULL", BAD, x -> x.figure(0, 8));
        full.changesNothing("figure(0, -1): BAD ahead of FULL", BAD, x -> x.figure(0, -1));
        Edges four = new Edges(due, "4", () -> Due.told("........;r0,r0,r0,r0"));
        four.answers("figure(0, 0): the fifth, alike", 4, x -> x.figure(0, 0));
    }

    /** 4: "BAD; FULL: 16." */
    private static void tunes() {
        Edges full = new Edges(due, "full", Made::full);
        for (int f = 0; f < 5; f++) {
            int figure = f;
            full.changesNothing("tune(" + f + ")", FULL, x -> x.tune(figure));
        }
        full.changesNothing("tune(5): BAD ahead of FULL", BAD, x -> x.tune(5));
        full.changesNothing("tune(-1): BAD ahead of FULL", BAD, x -> x.tune(-1));
        Edges fifteen = new Edges(due, "15", () -> Due.told("*.......;r1:000000000000000"));
        fifteen.answers("tune(0): the sixteenth", 16, x -> x.tune(0));
        full.answers("hush(): how long it was", 16, x -> x.hush());
        full.answers("tune(0) behind hush()", 1, x -> {
            x.hush();
            return x.tune(0);
        });
    }

    /** 10: "BAD: not 32 .. 126; FULL: 60." */
    private static void letters() {
        Edges full = new Edges(due, "full", Made::full);
        full.changesNothing("type(46)", FULL, x -> x.type(46));
        full.changesNothing("type(32): a blank is a letter, too", FULL, x -> x.type(32));
        full.changesNothing("type(31): BAD ahead of FULL", BAD, x -> x.type(31));
        full.changesNothing("type(127): BAD ahead of FULL", BAD, x -> x.type(127));
        full.answers("type(46) behind ring()", 1, x -> {
            x.ring();
            return x.type(46);
        });
    }

    /** 11: "THE TAPE, which is empty then"; "A FAULT (all else stays)." */
    private static void faults() {
        String[] texts = {"", "x", ".......", ".........", "........;r1:1", "********;r1,m2:0,"};
        int[] faults = {-20, -20, -27, -28, -32, -36};
        for (int t = 0; t < texts.length; t++) {
            String text = texts[t];
            Edges e = new Edges(due, "rich, an empty tape", () -> {
                PinAngels x = Made.rich();
                x.ring();
                return x;
            });
            e.changesNothing("ring() of '" + text + "'", faults[t], x -> Due.tell(x, text));
        }
        PinAngels taken = Made.rich();
        due.is("11: the rest of what was typed", Due.tell(taken, "....."), 2);
        due.is("11: the tape is empty behind a RING, too", taken.type('.'), 1);
    }

    /** 15: "BAD; NOT: it is GONE." 16: "BAD; NOT: it is not GONE, one is at the PLACE." */
    private static void leftAndCome() {
        Edges e = new Edges(due, "rich", Made::rich);
        e.changesNothing("leave(1): GONE", NOT, x -> x.leave(1));
        e.changesNothing("come(0, 1): not GONE", NOT, x -> x.come(0, 1));
        e.changesNothing("come(0, 4): not GONE, and it is there itself", NOT, x -> x.come(0, 4));
        e.changesNothing("come(1, 4): one is there", NOT, x -> x.come(1, 4));
        e.changesNothing("come(1, 7): one is there", NOT, x -> x.come(1, 7));
        e.changesNothing("come(0, 7): not GONE, and one is there", NOT, x -> x.come(0, 7));
        e.changesNothing("come(0, 8): BAD ahead of NOT", BAD, x -> x.come(0, 8));
        e.changesNothing("come(0, -1): BAD ahead of NOT", BAD, x -> x.come(0, -1));
        e.changesNothing("come(3, 4): BAD ahead of NOT", BAD, x -> x.come(3, 4));
        e.changesNothing("come(-1, 4): BAD ahead of NOT", BAD, x -> x.come(-1, 4));
        e.answers("come(1, 2): where it was", 3, x -> x.come(1, 2));
    }

    /** 13: "BAD; FULL: the BEAT would be above 9999." 17: "FULL: likewise." */
    private static void lateBeats() {
        Edges e = new Edges(due, "BEAT 9990", () -> Made.late("*.......;r1:0"));
        e.answers("beats(9): to 9999", 1 << 7, x -> x.beats(9));
        e.changesNothing("beats(10): to 10000", FULL, x -> x.beats(10));
        e.changesNothing("beats(40)", FULL, x -> x.beats(40));
        e.changesNothing("beats(41): BAD ahead of FULL", BAD, x -> x.beats(41));
        e.changesNothing("beats(2147483647): BAD ahead of FULL", BAD, x -> x.beats(Integer.MAX_VALUE));
        e.changesNothing("drift(10): to 10000, THE DRAW stays", FULL, x -> x.drift(10));
        e.changesNothing("drift(40)", FULL, x -> x.drift(40));
        e.changesNothing("drift(41): BAD ahead of FULL", BAD, x -> x.drift(41));
        e.answers("count(3) behind drift(9)", 9999, x -> {
            x.drift(9);
            return x.count(3);
        });
        Edges last = new Edges(due, "BEAT 9999", () -> {
            PinAngels x = Made.late("*.......;r1:0");
            x.beats(9);
            return x;
        });
        last.changesNothing("beats(1)", FULL, x -> x.beats(1));
        last.changesNothing("drift(1)", FULL, x -> x.drift(1));
        last.changesNothing("beats(0): BAD ahead of FULL", BAD, x -> x.beats(0));
        last.changesNothing("drift(0): BAD ahead of FULL", BAD, x -> x.drift(0));
        last.changesNothing("count(3)", 9999, x -> x.count(3));
        last.changesNothing("count(6)", 0, x -> x.count(6));
        last.changesNothing("ahead(0, 2000000000): foretold beyond 9999", 7, x -> x.ahead(0, 2000000000));
        last.changesNothing("back(0)", 8, x -> x.back(0));
        last.changesNothing("been(0)", 255, x -> x.been(0));
        last.answers("a DRAUGHT is no BEAT", 1, x -> x.draught(1));
        last.answers("beats(1) behind undo()", 1 << 7, x -> {
            x.undo();
            return x.beats(1);
        });
        last.answers("beats(1) behind a RING: BEAT 0", 1 << 1, x -> {
            Due.tell(x, "*.......;r1:0");
            return x.beats(1);
        });
    }

    /** 18: "NONE: none is known." 29: "NONE: there is none." 34: "NULL". */
    private static void nothingKnown() {
        Edges fresh = new Edges(due, "new", PinAngels::new);
        fresh.changesNothing("undo()", NONE, x -> x.undo());
        fresh.changesNothing("restore()", NONE, x -> x.restore());
        fresh.changesNothing("count(6)", NONE, x -> x.count(6));
        fresh.changesNothing("ring()", -20, x -> x.ring());
        for (int s = 0; s < 4; s++) {
            int sheet = s;
            fresh.changesNothing("drop(" + s + ")", NULL, x -> x.drop(sheet));
        }
        Edges told = new Edges(due, "told", () -> Due.told("*.*.....;r1:0"));
        told.changesNothing("undo()", NONE, x -> x.undo());
        told.changesNothing("restore()", NONE, x -> x.restore());
        Edges rich = new Edges(due, "rich", Made::rich);
        rich.changesNothing("drop(3)", NULL, x -> x.drop(3));
        rich.changesNothing("drop(4): BAD", BAD, x -> x.drop(4));
    }

    /**
     * 8, 20, 21, 24: NONE is what a call answers whose numbers are as told. The shared runs have shortest(0, -2) where no
     * row of figures leads to 0: BAD.
     */
    private static void badAheadOfNone() {
        Edges e = new Edges(due, "rich", Made::rich);
        e.changesNothing("at(1): GONE", NONE, x -> x.at(1));
        e.changesNothing("ahead(1, 0): GONE", NONE, x -> x.ahead(1, 0));
        e.changesNothing("ahead(1, 2000000000): GONE", NONE, x -> x.ahead(1, 2000000000));
        e.changesNothing("ahead(1, -1)", BAD, x -> x.ahead(1, -1));
        e.changesNothing("ahead(1, 2000000001)", BAD, x -> x.ahead(1, 2000000001));
        e.changesNothing("then(0, 0, 0): nobody", NONE, x -> x.then(0, 0, 0));
        e.changesNothing("then(0, -1, 0)", BAD, x -> x.then(0, -1, 0));
        e.changesNothing("then(0, 2000000001, 0)", BAD, x -> x.then(0, 2000000001, 0));
        e.changesNothing("then(8, 0, 0)", BAD, x -> x.then(8, 0, 0));
        e.changesNothing("shortest(0, -1): not by any", NONE, x -> x.shortest(0, -1));
        e.changesNothing("shortest(0, 0): not by any", NONE, x -> x.shortest(0, 0));
        e.changesNothing("shortest(0, -2)", BAD, x -> x.shortest(0, -2));
        e.changesNothing("shortest(256, -1)", BAD, x -> x.shortest(256, -1));
        e.changesNothing("shortest(-1, 2147483647)", BAD, x -> x.shortest(-1, Integer.MAX_VALUE));
        e.changesNothing("shortest(0x90, 0): none of none", NONE, x -> x.shortest(0x90, 0));
    }

    /** 26: "BAD: alike numbers, too; NOT: one is GONE." 27: "BAD; NOT: it is GONE, there are no FIGURES." */
    private static void apartAndChance() {
        Edges e = new Edges(due, "rich", Made::rich);
        e.changesNothing("apart(0, 1, 0)", NOT, x -> x.apart(0, 1, 0));
        e.changesNothing("apart(1, 0, 1)", NOT, x -> x.apart(1, 0, 1));
        e.changesNothing("apart(0, 0, 0): alike", BAD, x -> x.apart(0, 0, 0));
        e.changesNothing("apart(1, 1, 0): alike, BAD ahead of NOT", BAD, x -> x.apart(1, 1, 0));
        e.changesNothing("apart(1, 3, 0): BAD ahead of NOT", BAD, x -> x.apart(1, 3, 0));
        e.changesNothing("apart(-1, 1, 0): BAD ahead of NOT", BAD, x -> x.apart(-1, 1, 0));
        e.changesNothing("apart(0, 1, 2): BAD ahead of NOT", BAD, x -> x.apart(0, 1, 2));
        e.changesNothing("apart(1, 0, -1): BAD ahead of NOT", BAD, x -> x.apart(1, 0, -1));
        e.changesNothing("apart(3, 3, 0): alike, none such", BAD, x -> x.apart(3, 3, 0));
        e.changesNothing("chance(1, 0, 0, 0): GONE", NOT, x -> x.chance(1, 0, 0, 0));
        e.changesNothing("chance(1, 8, 0, 0): BAD ahead of NOT", BAD, x -> x.chance(1, 8, 0, 0));
        e.changesNothing("chance(1, 0, 9, 0): BAD ahead of NOT", BAD, x -> x.chance(1, 0, 9, 0));
        e.changesNothing("chance(1, 0, -1, 0): BAD ahead of NOT", BAD, x -> x.chance(1, 0, -1, 0));
        e.changesNothing("chance(1, 0, 0, 2): BAD ahead of NOT", BAD, x -> x.chance(1, 0, 0, 2));
        Edges none = new Edges(due, "no figures", () -> Due.told("*.*....."));
        none.changesNothing("chance(0, 0, 0, 0)", NOT, x -> x.chance(0, 0, 0, 0));
        none.changesNothing("chance(0, 0, 8, 1)", NOT, x -> x.chance(0, 0, 8, 1));
        none.changesNothing("chance(2, 0, 0, 0): BAD ahead of NOT", BAD, x -> x.chance(2, 0, 0, 0));
        none.changesNothing("chance(0, 0, 9, 0): BAD ahead of NOT", BAD, x -> x.chance(0, 0, 9, 0));
        none.changesNothing("apart(0, 1, 0): no figures are needed", 0, x -> x.apart(0, 1, 0));
    }

    /** What is due of a sheet of the rich object, if BAD is not: 5 bytes on 0, no shorts on 1, 8 ints on 2, nothing on 3. */
    private static int found(int sheet, int lane, int i, int n) {
        int[] sizes = {5, 0, 8};
        if (sheet == 3) {
            return NULL;
        }
        if (lane != sheet) {
            return CAST;
        }
        return i < 0 || i + n > sizes[sheet] ? INDEX : 0;
    }

    private static boolean lies(int v, int low, int high) {
        return low <= v && v <= high;
    }

    /** 30: "BAD; NULL; CAST; INDEX." 31: "BAD; NULL; CAST; INDEX; NOT: it is GONE." All that can come together. */
    private static void rowsRead() {
        Edges e = new Edges(due, "rich", Made::rich);
        int[] firsts = {-1, 0, 4, 5, 8};
        int[] ns = {0, 9, 1, 2};
        for (int s : SHEETS) for (int l : LANES) for (int i : firsts) for (int n : ns) {
            boolean taken = lies(s, 0, 3) && lies(l, 0, 3) && lies(n, 1, 8);
            int machine = taken ? found(s, l, i, n) : BAD;
            String at = s + ", " + l + ", " + i + ", " + n;
            for (int place : PLACES) for (int what = -1; what <= 3; what++) {
                int want = !lies(place, 0, 7) || !lies(what, 0, 2) ? BAD : machine;
                int asked = what;
                if (want < 0) {
                    e.changesNothing("counts(" + place + ", " + at + ", " + what + ")", want,
                            x -> x.counts(place, s, l, i, n, asked));
                }
            }
            for (int angel = -1; angel <= 3; angel++) for (int what = -1; what <= 2; what++) {
                int figure = angel == 0 ? 5 : 4;
                boolean all = lies(angel, 1, 2) && lies(what, 0, 1);
                int want = !all ? BAD : machine < 0 ? machine : angel == 1 ? NOT : 0;
                int who = angel;
                int asked = what;
                if (want < 0) {
                    e.changesNothing("steps(" + angel + ", " + figure + ", " + at + ", " + what + ")", want,
                            x -> x.steps(who, figure, s, l, i, n, asked));
                }
            }
        }
    }

    /** 32: "BAD; NULL; CAST; INDEX." One who is GONE is no refusal; and nothing comes to a sheet that all can't come to. */
    private static void rowsFilmed() {
        Edges e = new Edges(due, "rich", Made::rich);
        int[] firsts = {-1, 0, 4, 5, 8};
        int[] ns = {0, 25, 1, 2, 9};
        for (int s : SHEETS) for (int l : LANES) for (int i : firsts) for (int n : ns) {
            for (int angel = -1; angel <= 3; angel++) {
                boolean taken = lies(angel, 0, 2) && lies(s, 0, 3) && lies(l, 0, 3) && lies(n, 1, 24);
                int want = !taken ? BAD : found(s, l, i, n) < 0 ? found(s, l, i, n) : n;
                int who = angel;
                String call = "film(" + angel + ", " + n + ", " + s + ", " + l + ", " + i + ")";
                if (want < 0) {
                    e.changesNothing(call, want, x -> x.film(who, n, s, l, i));
                } else {
                    e.answers(call, want, x -> x.film(who, n, s, l, i));
                }
            }
        }
    }

    /** 35: "BAD; NULL; CAST; INDEX." */
    private static void rowsPut() {
        Edges e = new Edges(due, "rich", Made::rich);
        int[] firsts = {-1, 0, 4, 5, 7, 8};
        for (int s : SHEETS) for (int l : LANES) for (int i : firsts) {
            int want = !lies(s, 0, 3) || !lies(l, 0, 3) ? BAD : found(s, l, i, 1) < 0 ? found(s, l, i, 1) : 1;
            String call = "item(" + s + ", " + l + ", " + i + ", 6)";
            if (want < 0) {
                e.changesNothing(call, want, x -> x.item(s, l, i, 6));
            } else {
                e.answers(call, want, x -> x.item(s, l, i, 6));
            }
        }
    }

    /** 33: "BAD: also n above 24; SIZE: n below 0." What a sheet held stays, if a new row is refused. */
    private static void rowsMade() {
        Edges e = new Edges(due, "rich", Made::rich);
        int[] ns = {-1, Integer.MIN_VALUE, 25, Integer.MAX_VALUE};
        for (int s : SHEETS) for (int l : LANES) for (int n : ns) {
            int want = !lies(s, 0, 3) || !lies(l, 0, 3) || n > 24 ? BAD : SIZE;
            e.changesNothing("sheet(" + s + ", " + l + ", " + n + ")", want, x -> x.sheet(s, l, n));
        }
    }

    /** 36: "BAD; NULL (either); CAST: of unlike LANES; INDEX." */
    private static void rowsCopied() {
        Edges e = new Edges(due, "rich", Made::rich);
        int[] firsts = {-1, 0, 5, 6, 9};
        int[] ns = {-1, 0, 1, 6};
        for (int from : SHEETS) for (int to : SHEETS) for (int i : firsts) for (int j : firsts) for (int n : ns) {
            int want = n;
            if (!lies(from, 0, 3) || !lies(to, 0, 3)) {
                want = BAD;
            } else if (from == 3 || to == 3) {
                want = NULL;
            } else if (from != to) {
                want = CAST;
            } else if (n < 0 || found(from, from, i, n) < 0 || found(to, to, j, n) < 0) {
                want = INDEX;
            }
            String call = "copy(" + from + ", " + i + ", " + to + ", " + j + ", " + n + ")";
            if (want < 0) {
                e.changesNothing(call, want, x -> x.copy(from, i, to, j, n));
            } else {
                e.answers(call, want, x -> x.copy(from, i, to, j, n));
            }
        }
    }

    /** "FORETOLD from now (nothing is changed)"; and what is only asked for changes nothing either. */
    private static void askedChangesNothing() {
        Edges e = new Edges(due, "rich", Made::rich);
        for (int w = 0; w < 8; w++) {
            int what = w;
            e.changesNothing("count(" + w + ")", new int[]{3, 5, 4, 2, 0x90, 2, 2, 4}[w], x -> x.count(what));
        }
        e.changesNothing("of(2, 2)", 4, x -> x.of(2, 2));
        e.changesNothing("of(2, 3)", 0, x -> x.of(2, 3));
        e.changesNothing("of(4, 4)", 4, x -> x.of(4, 4));
        e.changesNothing("leads(2, 4)", 7, x -> x.leads(2, 4));
        e.changesNothing("seen(5)", 2, x -> x.seen(5));
        e.changesNothing("ahead(0, 3)", 0, x -> x.ahead(0, 3));
        e.changesNothing("then(0, 3, 0)", 0, x -> x.then(0, 3, 0));
        e.changesNothing("then(0, 3, 1)", 2, x -> x.then(0, 3, 1));
        e.changesNothing("back(-1)", 16, x -> x.back(-1));
        e.changesNothing("been(2)", 0x8D, x -> x.been(2));
        e.changesNothing("shortest(0x21, 0)", 0, x -> x.shortest(0x21, 0));
        e.changesNothing("sorts()", 16, x -> x.sorts());
        e.changesNothing("apart(0, 2, 1)", 3, x -> x.apart(0, 2, 1));
        e.changesNothing("chance(0, 5, 1, 1)", 5, x -> x.chance(0, 5, 1, 1));
        e.changesNothing("counts(0, 2, 2, 1, 3, 0)", 2, x -> x.counts(0, 2, 2, 1, 3, 0));
        e.changesNothing("steps(0, 2, 2, 2, 7, 1, 0)", 0b10101, x -> x.steps(0, 2, 2, 2, 7, 1, 0));
        e.changesNothing("steps(0, 2, 2, 2, 7, 1, 1)", 1 << 3, x -> x.steps(0, 2, 2, 2, 7, 1, 1));
    }
}
