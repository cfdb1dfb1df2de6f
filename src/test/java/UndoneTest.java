import java.math.BigInteger;

/** Part 3 of the document on what is UNDONE and on THE DRAW, and promises 13 to 19, 28, 29, sentence by sentence. */
public final class UndoneTest {
    private static final int NONE = PinAngels.NONE;
    private static final int HIGH = Integer.MAX_VALUE;
    private static final BigInteger BITS31 = BigInteger.ONE.shiftLeft(31);

    private static final Due due = new Due();

    public static void main(String[] args) {
        eightAreKnown();
        beatsByThemselves();
        driftsByThemselves();
        olderOnesAreLost();
        undoneAndDoneAgain();
        whateverWasTold();
        eachIsAsAheadOfIt();
        leavesNothing();
        leavesAll();
        drawIsOf31Bits();
        draughtsByTheDraw();
        draughtAheadOfTheBeat();
        drawAheadOfEachBeat();
        onlyADriftDraws();
        imageKeepsAll();
        imageOfNobodyAndOfAll();
        imageStaysAsItIs();
        imageOfNothingDone();
        due.end("UndoneTest");
    }

    /** "8 are known, older ones lost"; 12: "7 what may be UNDONE"; 18: "how many more may be. NONE: none is known." */
    private static void eightAreKnown() {
        for (int done = 0; done <= 20; done++) {
            PinAngels x = Due.told("*.......;r1:0");
            for (int t = 0; t < done; t++) {
                x.beats(1);
            }
            int known = Math.min(done, 8);
            due.is(done + " done: known", x.count(7), known);
            for (int left = known - 1; left >= 0; left--) {
                due.is(done + " done: undo", x.undo(), left);
                due.is(done + " done: may be undone yet", x.count(7), left);
            }
            due.is(done + " done: none is known", x.undo(), NONE);
            due.is(done + " done: the BEAT", x.count(3), done - known);
            due.is(done + " done: where it is", x.at(0), (done - known) % 8);
        }
    }

    /** 13: "each by itself may be UNDONE". */
    private static void beatsByThemselves() {
        int[] ns = {1, 7, 8, 9, 40};
        for (int n : ns) {
            PinAngels x = Due.told("*.......;r1:0");
            x.beats(n);
            due.is("beats(" + n + "): known", x.count(7), Math.min(n, 8));
            x.undo();
            due.is("beats(" + n + "): the last alone is undone", x.count(3), n - 1);
            due.is("beats(" + n + "): where it was", x.at(0), (n - 1) % 8);
        }
    }

    /** 17: "each with its DRAUGHT one that may be UNDONE". From 0 the draw is 12345: a draught by 6. */
    private static void driftsByThemselves() {
        int[] ns = {1, 7, 8, 9, 40};
        for (int n : ns) {
            PinAngels x = Due.told("*.......;r1:0");
            x.drift(n);
            due.is("drift(" + n + "): known", x.count(7), Math.min(n, 8));
            PinAngels y = Due.told("*.......;r1:0");
            int draw = 1;
            if (n > 1) {
                y.drift(n - 1);
                draw = y.seed(0);
            }
            x.undo();
            due.is("drift(" + n + "): the last alone is undone", x.count(3), n - 1);
            due.is("drift(" + n + "): where it was", x.at(0), y.at(0));
            due.is("drift(" + n + "): THE DRAW", x.seed(0), draw);
        }
        PinAngels z = Due.told("*.......;r1:0");
        z.seed(0);
        due.is("a DRAUGHT by 6, a BEAT by 1", z.drift(1), 1 << 7);
        due.is("one is known", z.count(7), 1);
    }

    /** Ten of unlike kinds: the first two can't be undone. */
    private static void olderOnesAreLost() {
        PinAngels x = Due.told("*.*.....;r1:0");
        x.leave(0);
        x.draught(1);
        x.come(0, 7);
        x.beats(1);
        x.draught(7);
        x.leave(1);
        x.drift(1);
        x.come(1, 5);
        x.draught(3);
        x.beats(1);
        int[] beats = {2, 2, 2, 1, 1, 1, 0, 0};
        int[] gone = {0, 0, 0b10, 0b10, 0, 0, 0, 0b01};
        for (int t = 0; t < 8; t++) {
            due.is("undo " + t, x.undo(), 7 - t);
            due.is("undo " + t + ": the BEAT", x.count(3), beats[t]);
            due.is("undo " + t + ": who is GONE", x.count(5), gone[t]);
        }
        due.is("no more", x.undo(), NONE);
        due.is("the first two stand: 0 is GONE", x.at(0), NONE);
        due.is("1 was blown on", x.at(1), 3);
    }

    /** What was undone makes room again, however often. */
    private static void undoneAndDoneAgain() {
        PinAngels x = Due.told("*.......;r1:0");
        int beat = 0;
        for (int round = 0; round < 7; round++) {
            due.is("five more", x.beats(5), 1 << (beat + 5) % 8);
            beat += 5;
            int known = x.count(7);
            for (int t = 1; t <= 3; t++) {
                due.is("three are undone", x.undo(), known - t);
            }
            beat -= 3;
            due.is("the BEAT", x.count(3), beat);
            due.is("where it is", x.at(0), beat % 8);
        }
        x.draught(2);
        due.is("an undo is none that may be undone", x.undo(), x.count(7));
        due.is("nothing comes back by another undo", x.undo() >= 0 && x.count(3) == beat - 1 ? 1 : 0, 1);
    }

    /** "where ANGELS are, the BEAT, THE DRAW are as ahead of it, whatever was told since". */
    private static void whateverWasTold() {
        for (int how = 0; how < 5; how++) {
            PinAngels x = Due.told("*.*.....;r1:0");
            x.leave(1);
            x.seed(12);
            switch (how) {
                case 0: x.beats(1); break;
                case 1: x.draught(4); break;
                case 2: x.leave(0); break;
                case 3: x.come(1, 6); break;
                default: x.drift(1); break;
            }
            x.seed(99);
            x.sheet(0, 2, 4);
            x.type('.');
            x.image();
            due.is(how + ": undo", x.undo(), 1);
            due.is(how + ": 0 is where it was", x.at(0), 0);
            due.is(how + ": 1 is GONE as it was", x.at(1), NONE);
            due.is(how + ": the BEAT", x.count(3), 0);
            due.is(how + ": THE DRAW is as ahead of it", x.seed(5), 12);
            due.is(how + ": sheets are of no matter", x.drop(0), 4);
            due.is(how + ": nor is the tape", x.type('.'), 2);
            due.is(how + ": the first", x.undo(), 0);
            due.is(how + ": THE DRAW as ahead of that", x.seed(5), 1);
            due.is(how + ": 1 is there", x.at(1), 2);
        }
    }

    /** Each of eight DRAUGHTS has its own draw and its own places ahead of it. */
    private static void eachIsAsAheadOfIt() {
        PinAngels x = Due.told("*.......");
        for (int t = 0; t < 12; t++) {
            x.seed(100 + t);
            x.draught(1 + t % 7);
        }
        int at = x.at(0);
        for (int t = 11; t >= 4; t--) {
            due.is("undo", x.undo(), t - 4);
            at = (at + 7 - t % 7) % 8;
            due.is("where it was ahead of " + t, x.at(0), at);
            due.is("THE DRAW ahead of " + t, x.seed(0), 100 + t);
        }
        due.is("older ones are lost", x.undo(), NONE);
        due.is("what was told stays, if none is undone", x.seed(0), 0);
    }

    /** "a RING told, a new ANGEL, FIGURE, a TUNE leave nothing to be UNDONE"; refused ones leave all. */
    private static void leavesNothing() {
        Edges.Whole[] leaving = {
            x -> Due.tell(x, "*......."), x -> Due.tell(x, "........;r1:0"), x -> x.angel(7), x -> x.figure(0, 0), x -> x.tune(0),
            x -> x.hush()};
        for (int t = 0; t < leaving.length; t++) {
            PinAngels x = Due.told("*.......;r1,m2:01");
            x.beats(9);
            due.holds(t + ": is taken", leaving[t].on(x) >= 0);
            due.is(t + ": nothing is left", x.count(7), 0);
            due.is(t + ": to be undone", x.undo(), NONE);
            x.draught(1);
            due.is(t + ": but what is done then", x.count(7), 1);
            due.is(t + ": is", x.undo(), 0);
            due.is(t + ": and no more", x.undo(), NONE);
        }
        PinAngels none = new PinAngels();
        none.beats(3);
        due.is("hush, where there was no tune", none.hush(), 0);
        due.is("leaves nothing, too", none.undo(), NONE);
        due.is("the BEAT stays", none.count(3), 3);
    }

    /** What is neither a RING, an ANGEL, a FIGURE nor a TUNE, or is refused, leaves what may be UNDONE. */
    private static void leavesAll() {
        Edges.Whole[] leaving = {
            x -> x.seed(4), x -> x.type('.'), x -> x.ring(), x -> x.image(), x -> x.sheet(0, 0, 3), x -> x.sorts(),
            x -> x.shortest(2, 0), x -> x.ahead(0, 5), x -> x.back(-1), x -> x.of(0, 2), x -> x.film(0, 2, 0, 0, 0),
            x -> x.angel(8), x -> x.angel(x.at(0)), x -> x.figure(5, 0), x -> x.tune(2), x -> x.draught(0), x -> x.leave(1),
            x -> x.come(0, 1), x -> x.beats(41), x -> x.drift(0), x -> x.restore(), x -> x.seed(-1)};
        for (int t = 0; t < leaving.length; t++) {
            PinAngels x = Due.told("*.......;r1,m2:01");
            x.beats(9);
            leaving[t].on(x);
            due.is(t + ": all may be undone", x.count(7), 8);
            due.is(t + ": undo", x.undo(), 7);
            due.is(t + ": the BEAT", x.count(3), 8);
        }
    }

    /** The seed from which THE DRAW becomes a told number. */
    private static int ahead(long draw) {
        BigInteger inverse = BigInteger.valueOf(1103515245).modInverse(BITS31);
        return BigInteger.valueOf(draw - 12345).multiply(inverse).mod(BITS31).intValueExact();
    }

    /** "THE DRAW is a number of 31 bits (1 at first)"; 19: "what it was. BAD: below 0." */
    private static void drawIsOf31Bits() {
        PinAngels x = new PinAngels();
        due.is("1 at first", x.seed(HIGH), 1);
        due.is("the greatest", x.seed(0), HIGH);
        due.is("the least", x.seed(-1), PinAngels.BAD);
        due.is("still", x.seed(0), 0);
        x.drift(1);
        due.is("from 0", x.seed(HIGH), 12345);
        x.drift(1);
        due.is("from the greatest", x.seed(1), 1043980748);
        int[] draws = {1103527590, 377401575, 662824084, 1147902781, 2035015474, 368800899, 1508029952, 486256185, 1062517886,
            267834847};
        for (int draw : draws) {
            x.drift(1);
            int was = x.seed(0);
            due.is("in turn", was, draw);
            x.seed(was);
        }
        long[] edges = {0, 1, 12344, 12345, 12346, 1L << 30, (1L << 30) - 1, HIGH - 1, HIGH};
        for (long draw : edges) {
            x.seed(ahead(draw));
            x.drift(1);
            due.is("becomes " + draw, x.seed(0), draw);
        }
        PinAngels y = new PinAngels();
        y.drift(40);
        due.is("behind 40", y.seed(0), 1775811865);
    }

    /** "if it by 65536, left over by 4, is 0, there is a DRAUGHT by 1 and it by 128, left over by 7." */
    private static void draughtsByTheDraw() {
        long[] draws = {0, 127, 128, 767, 768, 895, 896, 65535, 65536, 131071, 131072, 196608, 262143, 262144, 327679, 327680,
            2147287039L, 2147287040L, HIGH};
        int[] by = {1, 1, 2, 6, 7, 7, 1, 1, 0, 0, 0, 0, 0, 5, 5, 0,
            5, 0, 0};
        for (int t = 0; t < draws.length; t++) {
            PinAngels x = Due.told("*.....*.");
            x.leave(1);
            x.seed(ahead(draws[t]));
            due.is("THE DRAW " + draws[t], x.drift(1), 1 << by[t]);
            due.is("who is GONE stays so", x.at(1), NONE);
            due.is("one more may be undone", x.count(7), 2);
        }
    }

    /** "ahead of each BEAT of a DRIFT": the draught first, m0 leads 0 + 1 to 7, not 0 to 0 and on to 1. */
    private static void draughtAheadOfTheBeat() {
        PinAngels x = Due.told("*.......;m0:0");
        x.seed(ahead(0));
        due.is("0, 1, 7", x.drift(1), 1 << 7);
        due.is("one BEAT", x.count(3), 1);
        PinAngels y = Due.told("*.......;r1,m0:01");
        y.seed(ahead(0));
        due.is("the tune goes on by BEATS, not by DRAUGHTS", y.drift(1), 1 << 2);
        due.is("the second figure is next", y.count(6), 1);
    }

    private static void drawAheadOfEachBeat() {
        int[] places = {1, 2, 3, 4, 5, 6, 7, 0, 7, 0, 1, 2, 0, 6, 7, 0, 1, 2, 3, 4, 5, 6, 7, 0, 1, 2, 3, 4, 5, 4, 4, 5, 6, 7, 0, 1,
            2, 3, 4, 4};
        PinAngels one = Due.told("*.......;r1:0");
        for (int t = 0; t < places.length; t++) {
            due.is("BEAT " + t + " of a DRIFT", one.drift(1), 1 << places[t]);
            PinAngels many = Due.told("*.......;r1:0");
            due.is("a DRIFT of " + (t + 1), many.drift(t + 1), 1 << places[t]);
            due.is("its BEAT", many.count(3), t + 1);
        }
    }

    private static void onlyADriftDraws() {
        PinAngels x = Due.told("*.*.....;r1:0");
        x.beats(40);
        x.draught(3);
        x.leave(0);
        x.come(0, 7);
        Due.tell(x, "........");
        due.is("1 as at first", x.seed(8), 1);
        Due.tell(x, "*.......;r1:0");
        due.is("a RING leaves it", x.seed(0), 8);
    }

    /** 28: "All but SHEETS, THE TAPE is kept"; 29: "All is as it was then". */
    private static void imageKeepsAll() {
        PinAngels x = Made.rich();
        x.image();
        x.come(1, 0);
        x.seed(1234);
        x.drift(9);
        x.hush();
        x.angel((x.at(0) + 1) % 8);
        PinAngels y = Made.rich();
        y.image();
        due.is("restore", x.restore(), 1);
        due.same("all is as it was", Probe.of(x), Probe.of(y));
        PinAngels other = Made.rich();
        other.image();
        other.ring();
        Due.tell(other, "********;c7,c6,c5,c4,c3:4444");
        other.beats(3);
        Due.type(other, "*.*");
        other.restore();
        PinAngels twin = Made.rich();
        twin.image();
        due.same("behind another RING, too", Probe.of(other), Probe.of(twin));
        PinAngels z = Made.rich();
        z.image();
        z.sheet(0, 3, 2);
        z.drop(2);
        z.sheet(3, 1, 7);
        z.type('.');
        z.restore();
        due.is("the tape is not kept", z.type('.'), 5);
        due.is("nor is sheet 0", z.drop(0), 2);
        due.is("nor sheet 2", z.drop(2), PinAngels.NULL);
        due.is("nor sheet 3", z.drop(3), 7);
    }

    private static void imageOfNobodyAndOfAll() {
        PinAngels x = new PinAngels();
        due.is("an IMAGE of a new object", x.image(), 1);
        Due.tell(x, "********;r1,e1,m1,h1,c1:0123401234012340");
        x.seed(3);
        x.drift(9);
        x.restore();
        PinAngels fresh = new PinAngels();
        fresh.image();
        due.same("new again", Probe.of(x), Probe.of(fresh));
        PinAngels y = Due.told("********;r1,e1,m1,h1,c1:0123401234012340");
        y.drift(9);
        int places = 255 & ~(1 << y.leave(7));
        y.image();
        Due.tell(y, "........");
        y.restore();
        int[] counts = {8, 5, 16, 9, places, 128, 4, 8};
        for (int what = 0; what < 8; what++) {
            due.is("all: count(" + what + ")", y.count(what), counts[what]);
        }
    }

    /** What is done behind restore changes not the IMAGE; a later image stands in place of the elder. */
    private static void imageStaysAsItIs() {
        PinAngels x = Due.told("*.......;r1:0");
        x.beats(3);
        x.image();
        for (int t = 0; t < 3; t++) {
            due.is("restore, " + t, x.restore(), 1);
            due.is("the BEAT", x.count(3), 3);
            due.is("known", x.count(7), 3);
            due.is("undo", x.undo(), 2);
            x.beats(9);
            x.figure(2, 2);
            x.tune(1);
            x.seed(t);
        }
        x.image();
        x.hush();
        due.is("the later one", x.restore(), 1);
        due.is("its tune", x.count(2), 2);
        due.is("its BEAT", x.count(3), 11);
        due.is("nothing to be undone", x.undo(), NONE);
        due.is("its draw", x.seed(0), 2);
    }

    /** What may be UNDONE is as it was then, too: none, if there was none. */
    private static void imageOfNothingDone() {
        PinAngels x = Due.told("*.......;r1:0");
        x.image();
        x.beats(5);
        x.restore();
        due.is("none is known", x.count(7), 0);
        due.is("undo", x.undo(), NONE);
        PinAngels y = Due.told("*.......;r1:0");
        y.beats(2);
        y.image();
        y.hush();
        y.restore();
        due.is("two are known again", y.count(7), 2);
        due.is("undo again", y.undo(), 1);
        due.is("where it was", y.at(0), 1);
    }
}
