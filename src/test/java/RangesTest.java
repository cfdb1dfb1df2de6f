/**
 * Each number of each call: the last that is taken and the first that is refused, on either side, and the farthest ones
 * that an int can be; behind each refusal all is as if the call had not been.
 */
public final class RangesTest {
    private static final int BAD = PinAngels.BAD;
    private static final int NONE = PinAngels.NONE;
    private static final int INDEX = PinAngels.INDEX;
    private static final int SIZE = PinAngels.SIZE;

    private static final Due due = new Due();

    public static void main(String[] args) {
        angelsFiguresTune();
        figuresThereAre();
        angelsThereAre();
        whatIsAsked();
        whatIsDone();
        whoComes();
        foretold();
        apartAndChance();
        countsOfRows();
        stepsOfRows();
        filmsToRows();
        rowsThemselves();
        copies();
        due.end("RangesTest");
    }

    /** 2: "BAD" of a PLACE; 3: of a KIND, of a FAR; 4: of a FIGURE. */
    private static void angelsFiguresTune() {
        Edges e = new Edges(due, "one of each", () -> Due.told(".*......;r1:0"));
        e.range("angel(v)", 0, 1, 7, 1, BAD, (x, v) -> x.angel(v));
        e.range("figure(v, 3)", 0, 1, 4, 1, BAD, (x, v) -> x.figure(v, 3));
        e.range("figure(2, v)", 0, 1, 7, 1, BAD, (x, v) -> x.figure(2, v));
        e.range("tune(v)", 0, 2, 0, 2, BAD, (x, v) -> x.tune(v));
        Edges rich = new Edges(due, "rich", Made::rich);
        rich.range("tune(v)", 0, 5, 4, 5, BAD, (x, v) -> x.tune(v));
    }

    /** Where FIGURES are 0 to 5, the first number that is none is how many there are. */
    private static void figuresThereAre() {
        String figures = "........;r1,r2,r3,r4,r5";
        for (int k = 0; k <= 5; k++) {
            String ring = k == 0 ? "*......." : "*" + figures.substring(1, 8 + 3 * k);
            Edges e = new Edges(due, k + " figures", () -> Due.told(ring));
            int next = k;
            e.changesNothing("tune(" + k + ")", BAD, x -> x.tune(next));
            e.changesNothing("of(" + k + ", 0)", BAD, x -> x.of(next, 0));
            e.changesNothing("leads(" + k + ", 0)", BAD, x -> x.leads(next, 0));
            if (k > 0) {
                e.answers("tune(" + (k - 1) + ")", 1, x -> x.tune(next - 1));
                e.answers("of(" + (k - 1) + ", 1)", k, x -> x.of(next - 1, 1));
                e.answers("leads(" + (k - 1) + ", 0)", k, x -> x.leads(next - 1, 0));
            }
        }
    }

    /** Where ANGELS are 0 to 8, the first number that is none is how many there are. */
    private static void angelsThereAre() {
        for (int k = 0; k <= 8; k++) {
            String ring = "********".substring(0, k) + "........".substring(k);
            Edges e = new Edges(due, k + " angels", () -> Due.told(ring));
            int next = k;
            e.changesNothing("at(" + k + ")", BAD, x -> x.at(next));
            e.changesNothing("leave(" + k + ")", BAD, x -> x.leave(next));
            e.changesNothing("ahead(" + k + ", 0)", BAD, x -> x.ahead(next, 0));
            e.changesNothing("back(" + k + ")", BAD, x -> x.back(next));
            e.changesNothing("been(" + k + ")", BAD, x -> x.been(next));
            if (k > 0) {
                e.answers("at(" + (k - 1) + ")", k - 1, x -> x.at(next - 1));
                e.answers("leave(" + (k - 1) + ")", k - 1, x -> x.leave(next - 1));
                e.answers("ahead(" + (k - 1) + ", 0)", k - 1, x -> x.ahead(next - 1, 0));
                e.answers("back(" + (k - 1) + ")", 0, x -> x.back(next - 1));
                e.answers("been(" + (k - 1) + ")", 1 << k - 1, x -> x.been(next - 1));
            }
        }
    }

    /** 6, 7, 8, 9, 10, 12: "BAD". */
    private static void whatIsAsked() {
        Edges e = new Edges(due, "rich", Made::rich);
        e.range("of(v, 0)", 0, 0, 4, 1, BAD, (x, v) -> x.of(v, 0));
        e.range("of(1, v)", 0, 2, 4, 1, BAD, (x, v) -> x.of(1, v));
        e.range("leads(v, 0)", 0, 1, 4, 6, BAD, (x, v) -> x.leads(v, 0));
        e.range("leads(0, v)", 0, 1, 7, 0, BAD, (x, v) -> x.leads(0, v));
        e.range("at(v)", 0, 4, 2, 7, BAD, (x, v) -> x.at(v));
        e.range("seen(v)", 0, 1, 7, 2, BAD, (x, v) -> x.seen(v));
        e.range("type(v)", 32, 4, 126, 4, BAD, (x, v) -> x.type(v));
        e.range("count(v)", 0, 3, 7, 4, BAD, (x, v) -> x.count(v));
    }

    /** 13 to 15, 17, 19: "BAD". A round of the tune from here leads 4 to 2 to 0 to 6 to 4, and 7 to 7. */
    private static void whatIsDone() {
        Edges e = new Edges(due, "rich", Made::rich);
        e.range("beats(v)", 1, 1 << 7 | 1, 40, 1 | 1 << 7, BAD, (x, v) -> x.beats(v));
        e.range("draught(v)", 1, 1 << 5 | 1, 7, 1 << 3 | 1 << 6, BAD, (x, v) -> x.draught(v));
        e.range("leave(v)", 0, 4, 2, 7, BAD, (x, v) -> x.leave(v));
        e.below("seed(v)", 0, 77, BAD, (x, v) -> x.seed(v));
        e.answers("seed(2147483647)", 77, x -> x.seed(Integer.MAX_VALUE));
        // No figures, nobody: a drift is refused or not by its number alone.
        Edges none = new Edges(due, "nobody", PinAngels::new);
        none.range("drift(v)", 1, 0, 40, 0, BAD, (x, v) -> x.drift(v));
        none.range("beats(v)", 1, 0, 40, 0, BAD, (x, v) -> x.beats(v));
        none.range("draught(v)", 1, 0, 7, 0, BAD, (x, v) -> x.draught(v));
    }

    /** 16: "BAD" of an ANGEL, of a PLACE. */
    private static void whoComes() {
        Edges e = new Edges(due, "three are GONE", () -> {
            PinAngels x = Due.told("*.*..*..");
            x.leave(0);
            x.leave(1);
            x.leave(2);
            return x;
        });
        e.range("come(v, 1)", 0, 1, 2, 1, BAD, (x, v) -> x.come(v, 1));
        e.range("come(1, v)", 0, 1, 7, 1, BAD, (x, v) -> x.come(1, v));
    }

    /** 20 to 24: "BAD: n below 0, above 2000000000, too"; "BAD likewise"; "BAD: not 0 .. 255, k below -1". */
    private static void foretold() {
        Edges e = new Edges(due, "rich", Made::rich);
        e.range("ahead(v, 1)", 0, 7, 2, 0, BAD, (x, v) -> x.ahead(v, 1));
        e.range("ahead(0, v)", 0, 4, 2000000000, 4, BAD, (x, v) -> x.ahead(0, v));
        e.range("then(v, 0, 0)", 0, NONE, 7, 2, BAD, (x, v) -> x.then(v, 0, 0));
        e.range("then(7, v, 0)", 0, 2, 2000000000, 2, BAD, (x, v) -> x.then(7, v, 0));
        e.range("then(7, v, 1)", 0, 2, 2000000000, 2, BAD, (x, v) -> x.then(7, v, 1));
        e.range("then(4, 0, v)", 0, 0, 1, 2, BAD, (x, v) -> x.then(4, 0, v));
        e.range("back(v)", -1, 16, 2, 4, BAD, (x, v) -> x.back(v));
        e.range("been(v)", 0, 255, 2, 0x8D, BAD, (x, v) -> x.been(v));
        e.range("shortest(v, -1)", 0, NONE, 255, NONE, BAD, (x, v) -> x.shortest(v, -1));
        e.range("shortest(v, 0)", 0, NONE, 255, NONE, BAD, (x, v) -> x.shortest(v, 0));
        e.below("shortest(0x90, v)", -1, 0, BAD, (x, v) -> x.shortest(0x90, v));
        e.answers("shortest(0x90, 2147483647)", NONE, x -> x.shortest(0x90, Integer.MAX_VALUE));
        Edges none = new Edges(due, "nobody", PinAngels::new);
        none.range("shortest(v, -1)", 0, 0, 255, NONE, BAD, (x, v) -> x.shortest(v, -1));
        Edges all = new Edges(due, "all", () -> Due.told("********"));
        all.range("shortest(v, -1)", 0, NONE, 255, 0, BAD, (x, v) -> x.shortest(v, -1));
        // Without a tune and without angels back(-1) is still asked, and no angel's number is one.
        none.range("back(v)", -1, 0, -1, 0, BAD, (x, v) -> x.back(v));
    }

    /** 26, 27: "BAD". */
    private static void apartAndChance() {
        Edges e = new Edges(due, "three, r1, r0", () -> Due.told("*.*..*..;r1,r0"));
        e.range("apart(v, 1, 1)", 0, 2, 2, 3, BAD, (x, v) -> x.apart(v, 1, 1));
        e.range("apart(1, v, 1)", 0, 2, 2, 3, BAD, (x, v) -> x.apart(1, v, 1));
        e.range("apart(0, 1, v)", 0, 0, 1, 2, BAD, (x, v) -> x.apart(0, 1, v));
        e.range("chance(v, 0, 1, 0)", 0, 1, 2, 0, BAD, (x, v) -> x.chance(v, 0, 1, 0));
        e.range("chance(0, v, 1, 0)", 0, 1, 7, 0, BAD, (x, v) -> x.chance(0, v, 1, 0));
        e.range("chance(0, 0, v, 1)", 0, 1, 8, 128, BAD, (x, v) -> x.chance(0, 0, v, 1));
        e.range("chance(0, 1, 1, v)", 0, 1, 1, 2, BAD, (x, v) -> x.chance(0, 1, 1, v));
    }

    /** 30: "BAD; NULL; CAST; INDEX", of PLACES, SHEETS, LANES, items, n "(n of them, 1 .. 8)", what. */
    private static void countsOfRows() {
        Edges e = new Edges(due, "rows", Made::rows);
        e.range("counts(v, 2, 2, 0, 1, 0)", 0, 2, 7, 2, BAD, (x, v) -> x.counts(v, 2, 2, 0, 1, 0));
        e.range("counts(0, v, lane, 0, 1, 0)", 0, 2, 3, 2, BAD, (x, v) -> x.counts(0, v, v & 3, 0, 1, 0));
        e.range("counts(0, sheet, v, 0, 1, 0)", 0, 2, 3, 2, BAD, (x, v) -> x.counts(0, v & 3, v, 0, 1, 0));
        e.range("counts(0, 2, 2, v, 1, 0)", 0, 2, 23, 2, INDEX, (x, v) -> x.counts(0, 2, 2, v, 1, 0));
        e.range("counts(0, 2, 2, v, 8, 0)", 0, 1, 16, 1, INDEX, (x, v) -> x.counts(0, 2, 2, v, 8, 0));
        e.range("counts(0, 2, 2, 0, v, 0)", 1, 2, 8, 1, BAD, (x, v) -> x.counts(0, 2, 2, 0, v, 0));
        e.range("counts(0, 2, 2, 0, 1, v)", 0, 2, 2, 1, BAD, (x, v) -> x.counts(0, 2, 2, 0, 1, v));
    }

    /** 31: "BAD; NULL; CAST; INDEX", of ANGELS, FIGURES, SHEETS, LANES, items, n BEATS "(1 .. 8)", what. */
    private static void stepsOfRows() {
        Edges e = new Edges(due, "rows", Made::rows);
        e.range("steps(v, 0, 2, 2, 0, 1, 1)", 0, 1, 2, 1 << 3, BAD, (x, v) -> x.steps(v, 0, 2, 2, 0, 1, 1));
        e.range("steps(0, v, 2, 2, 0, 1, 1)", 0, 1, 1, 0, BAD, (x, v) -> x.steps(0, v, 2, 2, 0, 1, 1));
        e.range("steps(0, 0, v, lane, 0, 1, 1)", 0, 1, 3, 1, BAD, (x, v) -> x.steps(0, 0, v, v & 3, 0, 1, 1));
        e.range("steps(0, 0, sheet, v, 0, 1, 1)", 0, 1, 3, 1, BAD, (x, v) -> x.steps(0, 0, v & 3, v, 0, 1, 1));
        e.range("steps(0, 0, 2, 2, v, 1, 1)", 0, 1, 23, 1, INDEX, (x, v) -> x.steps(0, 0, 2, 2, v, 1, 1));
        e.range("steps(0, 0, 2, 2, v, 8, 1)", 0, 1, 16, 1, INDEX, (x, v) -> x.steps(0, 0, 2, 2, v, 8, 1));
        e.range("steps(0, 0, 2, 2, 0, v, 1)", 1, 1, 8, 1, BAD, (x, v) -> x.steps(0, 0, 2, 2, 0, v, 1));
        e.range("steps(0, 0, 2, 2, 0, 1, v)", 0, 0, 1, 1, BAD, (x, v) -> x.steps(0, 0, 2, 2, 0, 1, v));
    }

    /** 32: "behind 1, 2, .. n BEATS (1 .. 24"; "BAD; NULL; CAST; INDEX". */
    private static void filmsToRows() {
        Edges e = new Edges(due, "rows", Made::rows);
        e.range("film(v, 1, 2, 2, 0)", 0, 1, 2, 1, BAD, (x, v) -> x.film(v, 1, 2, 2, 0));
        e.range("film(0, v, 2, 2, 0)", 1, 1, 24, 24, BAD, (x, v) -> x.film(0, v, 2, 2, 0));
        e.range("film(0, 1, v, lane, 0)", 0, 1, 3, 1, BAD, (x, v) -> x.film(0, 1, v, v & 3, 0));
        e.range("film(0, 1, sheet, v, 0)", 0, 1, 3, 1, BAD, (x, v) -> x.film(0, 1, v & 3, v, 0));
        e.range("film(0, 1, 2, 2, v)", 0, 1, 23, 1, INDEX, (x, v) -> x.film(0, 1, 2, 2, v));
        e.range("film(0, 24, 2, 2, v)", 0, 24, 0, 24, INDEX, (x, v) -> x.film(0, 24, 2, 2, v));
    }

    /** 33: "BAD: also n above 24; SIZE: n below 0"; 34: "BAD"; 35: "BAD; NULL; CAST; INDEX". */
    private static void rowsThemselves() {
        Edges e = new Edges(due, "rows", Made::rows);
        e.range("sheet(v, 1, 3)", 0, 3, 3, 3, BAD, (x, v) -> x.sheet(v, 1, 3));
        e.range("sheet(1, v, 3)", 0, 3, 3, 3, BAD, (x, v) -> x.sheet(1, v, 3));
        e.above("sheet(1, 1, v)", 24, 24, BAD, (x, v) -> x.sheet(1, 1, v));
        e.below("sheet(1, 1, v)", 0, 0, SIZE, (x, v) -> x.sheet(1, 1, v));
        e.range("drop(v)", 0, 24, 3, 24, BAD, (x, v) -> x.drop(v));
        e.range("item(v, lane, 0, 7)", 0, 1, 3, 1, BAD, (x, v) -> x.item(v, v & 3, 0, 7));
        e.range("item(sheet, v, 0, 7)", 0, 1, 3, 1, BAD, (x, v) -> x.item(v & 3, v, 0, 7));
        for (int lane = 0; lane < 4; lane++) {
            int s = lane;
            e.range("item(" + s + ", " + s + ", v, 7)", 0, 1, 23, 1, INDEX, (x, v) -> x.item(s, s, v, 7));
        }
        Edges short5 = new Edges(due, "rich", Made::rich);
        short5.range("item(0, 0, v, 7)", 0, 1, 4, 1, INDEX, (x, v) -> x.item(0, 0, v, 7));
        short5.changesNothing("item(1, 1, 0, 7) of no items", INDEX, x -> x.item(1, 1, 0, 7));
        short5.changesNothing("item(1, 1, -1, 7) of no items", INDEX, x -> x.item(1, 1, -1, 7));
    }

    /** 36: "BAD; NULL (either); CAST: of unlike LANES; INDEX". Sheet 0 has 5 bytes, sheet 2 8 ints; sheet 3 5 ints here. */
    private static void copies() {
        Edges e = new Edges(due, "rich", () -> {
            PinAngels x = Made.rich();
            Due.lay(x, 3, 2, 7, 6, 5, 4, 3);
            return x;
        });
        e.range("copy(2, v, 3, 0, 0)", 0, 0, 8, 0, INDEX, (x, v) -> x.copy(2, v, 3, 0, 0));
        e.range("copy(2, v, 3, 0, 1)", 0, 1, 7, 1, INDEX, (x, v) -> x.copy(2, v, 3, 0, 1));
        e.range("copy(2, v, 3, 0, 5)", 0, 5, 3, 5, INDEX, (x, v) -> x.copy(2, v, 3, 0, 5));
        e.range("copy(2, 0, 3, v, 0)", 0, 0, 5, 0, INDEX, (x, v) -> x.copy(2, 0, 3, v, 0));
        e.range("copy(2, 0, 3, v, 1)", 0, 1, 4, 1, INDEX, (x, v) -> x.copy(2, 0, 3, v, 1));
        e.range("copy(2, 0, 3, v, 5)", 0, 5, 0, 5, INDEX, (x, v) -> x.copy(2, 0, 3, v, 5));
        e.range("copy(2, 0, 3, 0, v)", 0, 0, 5, 5, INDEX, (x, v) -> x.copy(2, 0, 3, 0, v));
        e.range("copy(3, 0, 2, 0, v)", 0, 0, 5, 5, INDEX, (x, v) -> x.copy(3, 0, 2, 0, v));
        e.range("copy(2, 3, 2, 1, v)", 0, 0, 5, 5, INDEX, (x, v) -> x.copy(2, 3, 2, 1, v));
        e.range("copy(2, 1, 2, 3, v)", 0, 0, 5, 5, INDEX, (x, v) -> x.copy(2, 1, 2, 3, v));
        Edges like = new Edges(due, "four alike", () -> {
            PinAngels x = new PinAngels();
            for (int s = 0; s < 4; s++) {
                Due.lay(x, s, 1, s, 7 - s);
            }
            return x;
        });
        like.range("copy(v, 0, 2, 0, 2)", 0, 2, 3, 2, BAD, (x, v) -> x.copy(v, 0, 2, 0, 2));
        like.range("copy(2, 0, v, 0, 2)", 0, 2, 3, 2, BAD, (x, v) -> x.copy(2, 0, v, 0, 2));
    }
}
