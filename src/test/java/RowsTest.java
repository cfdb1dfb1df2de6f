/** Part 3 of the document on COUNTS, STEPS and SHEETS, and promises 30 to 36, sentence by sentence. */
public final class RowsTest {
    private static final int BAD = PinAngels.BAD;
    private static final int NOT = PinAngels.NOT;
    private static final int NONE = PinAngels.NONE;
    private static final int NULL = PinAngels.NULL;
    private static final int CAST = PinAngels.CAST;
    private static final int INDEX = PinAngels.INDEX;

    /** The ring in which read() reads: a round leads its angel as far as the item is, if that is a place. */
    private static final String READING = "*.......;r0:0";

    private static final Due due = new Due();

    public static void main(String[] args) {
        countsOfOne();
        countsRoundTheRing();
        countsOfNone();
        countsOfNoughtToEight();
        countsOfAnyAngels();
        stepsOfKinds();
        stepsOfFars();
        stepsOfEightBeats();
        stepsOfFiguresNotPlayed();
        stepsOfWhatIsNoPlace();
        filmsOfOneToTwentyFour();
        filmsOfOneWhoIsGone();
        filmsLeaveTheRest();
        nothingAtFirst();
        rowsOfNoneToTwentyFour();
        newRowsAreOfNoughts();
        lowestBits();
        lanesAreTheirOwn();
        copiesInOneSheet();
        copiesOfEachLane();
        copiesOfNone();
        due.end("RowsTest");
    }

    /** The items of a sheet; - for what is no place. */
    private static String read(PinAngels x, int sheet, int lane, int n) {
        StringBuilder b = new StringBuilder();
        for (int i = 0; i < n; i++) {
            int fars = x.steps(0, 0, sheet, lane, i, 1, 1);
            b.append(fars > 0 ? (char) ('0' + Integer.numberOfTrailingZeros(fars)) : '-');
        }
        return b.toString();
    }

    private static void counts(String row, PinAngels x, int place, int n, int sets, int least, int greatest) {
        due.is(row + " from " + place + ": sets", x.counts(place, 0, 0, 0, n, 0), sets);
        due.is(row + " from " + place + ": least", x.counts(place, 0, 0, 0, n, 1), least);
        due.is(row + " from " + place + ": greatest", x.counts(place, 0, 0, 0, n, 2), greatest);
    }

    /** Of one item: from each place alike; 5 is the most that are SEEN. */
    private static void countsOfOne() {
        int[][] want = {{2, 0, 1}, {26, 1, 4}, {100, 2, 7}, {100, 3, 8}, {26, 4, 7}, {2, 5, 6}, {0, NONE, NONE}, {0, NONE, NONE},
            {0, NONE, NONE}};
        for (int seen = 0; seen < want.length; seen++) {
            PinAngels x = new PinAngels();
            Due.lay(x, 0, 0, seen);
            for (int v = 0; v < 8; v++) {
                counts("" + seen, x, v, 1, want[seen][0], want[seen][1], want[seen][2]);
            }
        }
    }

    /** "from PLACES v, v and 1, .. (n of them, 1 .. 8, round the ring)". */
    private static void countsRoundTheRing() {
        String[] rings = {"*.......", ".......*", "*......*", "*..*....", "*...*...", "****....", "*.*.*.*.", "*******.", "********"};
        for (String ring : rings) {
            PinAngels there = Due.told(ring);
            int angels = there.count(0);
            for (int v = 0; v < 8; v++) {
                PinAngels x = new PinAngels();
                x.sheet(0, 0, 8);
                for (int t = 0; t < 8; t++) {
                    x.item(0, 0, t, there.seen((v + t) % 8));
                }
                counts(ring, x, v, 8, 1, angels, angels);
            }
        }
        PinAngels x = new PinAngels();
        Due.lay(x, 0, 0, 1, 2);
        counts("1, 2: from 7 and 0", x, 7, 2, 11, 2, 4);
        Due.lay(x, 0, 0, 2, 1, 2);
        counts("2, 1, 2: from 6, 7, 0", x, 6, 3, 7, 2, 4);
        Due.lay(x, 0, 0, 0, 0);
        counts("0, 0: from 7 and 0, which have all in sight", x, 7, 2, 1, 0, 0);
    }

    /** "none": a row that can't be. */
    private static void countsOfNone() {
        PinAngels x = new PinAngels();
        Due.lay(x, 0, 0, 0, 5, 3, 0);
        counts("0, 5", x, 0, 2, 0, NONE, NONE);
        long[] odd = {-1, -4, 6, 127, -128};
        for (long v : odd) {
            Due.lay(x, 0, 0, v);
            counts("" + v, x, 0, 1, 0, NONE, NONE);
        }
        long[] long3 = {3L + (1L << 32), 3L - (1L << 32), Long.MIN_VALUE + 3, 3L + (1L << 8), 3L + (1L << 16)};
        for (long v : long3) {
            Due.lay(x, 1, 3, v);
            due.is(v + " is not 3", x.counts(0, 1, 3, 0, 1, 0), 0);
        }
    }

    /** "at which ANGELS (any, 0 .. 8 of them) may be so". */
    private static void countsOfNoughtToEight() {
        PinAngels x = new PinAngels();
        Due.lay(x, 0, 0, 0, 0, 0, 0, 0, 0, 0, 0);
        counts("0 everywhere: none of them", x, 0, 8, 1, 0, 0);
        counts("0 from seven", x, 3, 7, 1, 0, 0);
        Due.lay(x, 0, 0, 3, 3, 3, 3, 3, 3, 3, 3);
        counts("3 everywhere: all of them", x, 4, 8, 1, 8, 8);
    }

    /** Who is there now, and how many there are, is of no matter. */
    private static void countsOfAnyAngels() {
        String[] rings = {"........", "*.......", "********;r1:0"};
        for (String ring : rings) {
            PinAngels x = Due.told(ring);
            Due.lay(x, 0, 0, 3);
            counts(ring + ": 3", x, 0, 1, 100, 3, 8);
        }
    }

    /** "KINDS (a set) of a FIGURE by which it would be so": its FAR as it is. */
    private static void stepsOfKinds() {
        String[] rings = {"..*.....;r0:0", "*.......;r4:0", "*.......;m4:0", ".*......;c2:0", ".*......;e2:0", ".*......;e0:0"};
        int[] items = {2, 4, 0, 1, 5, 1};
        int[] kinds = {0b01011, 0b00101, 0b11010, 0b11100, 0b00010, 0b01011};
        for (int t = 0; t < rings.length; t++) {
            PinAngels x = Due.told(rings[t]);
            Due.lay(x, 0, 0, items[t]);
            due.is(rings[t] + " to " + items[t], x.steps(0, 0, 0, 0, 0, 1, 0), kinds[t]);
        }
        PinAngels x = Due.told("*.......;r0:0");
        Due.lay(x, 0, 0, 0);
        due.is("all that keep 0", x.steps(0, 0, 0, 0, 0, 1, 0), 0b01111);
    }

    /** "FARS (0 .. 7, a set) of it": its KIND as it is. */
    private static void stepsOfFars() {
        String[] rings = {"*.......;r3:0", "*.......;e3:0", ".......*;m0:0", ".*......;h5:0", "*.......;h0:0", "*.......;c1:0"};
        int[] items = {7, 6, 0, 1, 2, 4};
        int[] fars = {1 << 7, 1 << 3 | 1 << 7, 1 << 7, 255, 1 << 1 | 1 << 5, 1 << 0};
        for (int t = 0; t < rings.length; t++) {
            PinAngels x = Due.told(rings[t]);
            Due.lay(x, 0, 0, items[t]);
            due.is(rings[t] + " to " + items[t], x.steps(0, 0, 0, 0, 0, 1, 1), fars[t]);
        }
    }

    /** "behind each of the next n BEATS (1 .. 8)": from this BEAT on, and round the tune. */
    private static void stepsOfEightBeats() {
        PinAngels x = Due.told("*.......;r1,r2,r0:012");
        x.beats(2);
        due.is("at 3, of the last figure", x.at(0), 3);
        Due.lay(x, 0, 2, 3, 4, 6, 6, 7, 1, 1, 2);
        for (int n = 1; n <= 8; n++) {
            due.is(n + ": r0 by fars", x.steps(0, 2, 0, 2, 0, n, 1), 1);
            due.is(n + ": r1 by fars", x.steps(0, 0, 0, 2, 0, n, 1), n == 1 ? 255 : 1 << 1);
            due.is(n + ": r2 by fars", x.steps(0, 1, 0, 2, 0, n, 1), n <= 2 ? 255 : 1 << 2);
        }
        x.item(0, 2, 7, 3);
        due.is("the eighth is wrong", x.steps(0, 2, 0, 2, 0, 8, 1), 0);
        due.is("seven are right", x.steps(0, 2, 0, 2, 0, 7, 1), 1);
        due.is("nine are too many", x.steps(0, 2, 0, 2, 0, 9, 1), BAD);
        due.is("none are too few", x.steps(0, 2, 0, 2, 0, 0, 1), BAD);
    }

    /** A FIGURE that the next BEATS have not: all, or none. And no tune at all: one stays. */
    private static void stepsOfFiguresNotPlayed() {
        PinAngels x = Due.told("*.......;r1,m3:0");
        Due.lay(x, 0, 1, 1, 2, 4);
        due.is("as told: all kinds", x.steps(0, 1, 0, 1, 0, 2, 0), 0b11111);
        due.is("as told: all fars", x.steps(0, 1, 0, 1, 0, 2, 1), 255);
        due.is("not so: no kind", x.steps(0, 1, 0, 1, 0, 3, 0), 0);
        due.is("not so: no far", x.steps(0, 1, 0, 1, 0, 3, 1), 0);
        x.hush();
        Due.lay(x, 0, 1, 0, 0);
        due.is("no tune: all kinds", x.steps(0, 0, 0, 1, 0, 2, 0), 0b11111);
        due.is("no tune: all fars", x.steps(0, 0, 0, 1, 0, 2, 1), 255);
    }

    private static void stepsOfWhatIsNoPlace() {
        PinAngels x = Due.told("*.......;r1:0");
        long[] odd = {-1, 8, -4, 1L + (1L << 32), Long.MAX_VALUE, Long.MIN_VALUE};
        for (long v : odd) {
            Due.lay(x, 0, 3, v);
            due.is(v + ": no kind", x.steps(0, 0, 0, 3, 0, 1, 0), 0);
            due.is(v + ": no far", x.steps(0, 0, 0, 3, 0, 1, 1), 0);
        }
        x.leave(0);
        Due.lay(x, 0, 3, NONE);
        due.is("one who is GONE goes nowhere, not even so", x.steps(0, 0, 0, 3, 0, 1, 0), NOT);
    }

    /** 32: "behind 1, 2, .. n BEATS (1 .. 24 ..), an item each". */
    private static void filmsOfOneToTwentyFour() {
        for (int lane = 0; lane < 4; lane++) {
            PinAngels x = Due.told(".......*;r1,r3:01");
            x.sheet(lane, lane, 24);
            due.is("24", x.film(0, 24, lane, lane, 0), 24);
            due.is("nothing is changed but the sheet", x.count(4), 1 << 7);
            due.is("nor the BEAT", x.count(3), 0);
            due.is("nothing to be undone by it", x.count(7), 0);
            Due.tell(x, READING);
            due.same("lane " + lane, read(x, lane, lane, 24), "034703470347034703470347");
        }
        PinAngels one = Due.told("*.......;r5:0");
        one.sheet(0, 0, 1);
        due.is("one", one.film(0, 1, 0, 0, 0), 1);
        Due.tell(one, READING);
        due.same("behind 1 BEAT, not behind 0", read(one, 0, 0, 1), "5");
        PinAngels none = Due.told("....*...;r5");
        none.sheet(0, 0, 3);
        due.is("no tune", none.film(0, 3, 0, 0, 0), 3);
        Due.tell(none, READING);
        due.same("it stays", read(none, 0, 0, 3), "444");
        PinAngels on = Due.told("*.......;r1,r3:01");
        on.beats(1);
        on.sheet(0, 0, 3);
        on.film(0, 3, 0, 0, 0);
        Due.tell(on, READING);
        due.same("from this BEAT on", read(on, 0, 0, 3), "450");
    }

    /** "-4: GONE". */
    private static void filmsOfOneWhoIsGone() {
        for (int lane = 0; lane < 4; lane++) {
            PinAngels x = Due.told("**......;r1:0");
            Due.lay(x, lane, lane, 3, 3, 3, 3);
            x.leave(0);
            due.is("two items", x.film(0, 2, lane, lane, 1), 2);
            Due.tell(x, READING);
            due.same("are no places", read(x, lane, lane, 4), "3--3");
        }
    }

    private static void filmsLeaveTheRest() {
        PinAngels x = Due.told("*.......;r1:0");
        Due.lay(x, 0, 1, 7, 7, 7, 7, 7);
        Due.lay(x, 1, 1, 6, 6);
        due.is("film", x.film(0, 2, 0, 1, 3), 2);
        due.is("one too far", x.film(0, 2, 0, 1, 4), INDEX);
        due.is("one too early", x.film(0, 2, 0, 1, -1), INDEX);
        Due.tell(x, READING);
        due.same("the last two", read(x, 0, 1, 5), "77712");
        due.same("not the other sheet", read(x, 1, 1, 2), "66");
    }

    /** "sheets 0 .. 3: nothing (at first)". */
    private static void nothingAtFirst() {
        PinAngels x = Due.told(READING);
        for (int s = 0; s < 4; s++) {
            for (int lane = 0; lane < 4; lane++) {
                due.is("counts", x.counts(0, s, lane, 0, 1, 0), NULL);
                due.is("steps", x.steps(0, 0, s, lane, 0, 1, 0), NULL);
                due.is("film", x.film(0, 1, s, lane, 0), NULL);
                due.is("item", x.item(s, lane, 0, 0), NULL);
                due.is("copy", x.copy(s, 0, lane, 0, 0), NULL);
            }
            due.is("drop", x.drop(s), NULL);
        }
        x.sheet(2, 0, 3);
        for (int s = 0; s < 4; s++) {
            due.is("copy from " + s, x.copy(s, 0, 2, 0, 0), s == 2 ? 0 : NULL);
            due.is("copy to " + s, x.copy(2, 0, s, 0, 0), s == 2 ? 0 : NULL);
        }
        due.is("drop: how many items it had", x.drop(2), 3);
        due.is("nothing again", x.drop(2), NULL);
        due.is("nothing to put to", x.item(2, 0, 0, 1), NULL);
    }

    /** "of 0 to 24 items". */
    private static void rowsOfNoneToTwentyFour() {
        for (int n = 0; n <= 24; n++) {
            for (int lane = 0; lane < 4; lane++) {
                PinAngels x = new PinAngels();
                due.is("sheet", x.sheet(3 - lane, lane, n), n);
                due.is("behind the last", x.item(3 - lane, lane, n, 1), INDEX);
                due.is("the last", x.item(3 - lane, lane, n - 1, 1), n == 0 ? INDEX : 1);
                due.is("drop", x.drop(3 - lane), n);
            }
        }
    }

    /** 33: "A SHEET holds a new row": nothing of what was there. */
    private static void newRowsAreOfNoughts() {
        for (int lane = 0; lane < 4; lane++) {
            PinAngels x = Due.told(READING);
            x.sheet(1, lane, 24);
            for (int i = 0; i < 24; i++) {
                x.item(1, lane, i, 7);
            }
            x.sheet(1, lane, 2);
            due.same("fewer", read(x, 1, lane, 2), "00");
            due.is("no third", x.item(1, lane, 2, 0), INDEX);
            x.sheet(1, (lane + 1) % 4, 24);
            due.same("more", read(x, 1, (lane + 1) % 4, 24), "000000000000000000000000");
            due.is("of the new lane alone", x.item(1, lane, 0, 0), CAST);
            x.item(1, (lane + 1) % 4, 5, 5);
            x.drop(1);
            x.sheet(1, lane, 6);
            due.same("dropped and new", read(x, 1, lane, 6), "000000");
        }
    }

    /** 35: "becomes v, its lowest bits". */
    private static void lowestBits() {
        long[] values = {5, 256 + 5, -256 + 5, 65536 + 5, -65536 + 5, (1L << 32) + 5, -(1L << 32) + 5, Long.MIN_VALUE + 5, 128 + 5,
            32768 + 5, (1L << 31) + 5, -1, 255, 8};
        String[] read = {"55555555-55---", "5--55555--5---", "5----555------", "5-------------"};
        for (int lane = 0; lane < 4; lane++) {
            PinAngels x = Due.told(READING);
            due.is("sheet", x.sheet(0, lane, values.length), values.length);
            for (int i = 0; i < values.length; i++) {
                due.is("item", x.item(0, lane, i, values[i]), 1);
            }
            due.same("lane " + lane, read(x, 0, lane, values.length), read[lane]);
        }
    }

    /** "CAST -12 (of SHEETS another LANE)". */
    private static void lanesAreTheirOwn() {
        PinAngels x = Due.told(READING);
        for (int s = 0; s < 4; s++) {
            x.sheet(s, s, 2);
        }
        for (int s = 0; s < 4; s++) {
            for (int lane = 0; lane < 4; lane++) {
                boolean own = s == lane;
                due.is("item", x.item(s, lane, 0, 0), own ? 1 : CAST);
                due.is("counts", x.counts(0, s, lane, 0, 1, 0), own ? 2 : CAST);
                due.is("steps", x.steps(0, 0, s, lane, 0, 1, 1), own ? 1 : CAST);
                due.is("film", x.film(0, 1, s, lane, 0), own ? 1 : CAST);
                due.is("copy", x.copy(s, 0, lane, 0, 1), own ? 1 : CAST);
                due.is("copy of none", x.copy(s, 0, lane, 0, 0), own ? 0 : CAST);
            }
        }
    }

    /** 36: "or the same .. as if all were taken ahead": all that lie within six items. */
    private static void copiesInOneSheet() {
        for (int i = 0; i <= 6; i++) {
            for (int j = 0; j <= 6; j++) {
                for (int n = 0; n <= 7; n++) {
                    PinAngels x = Due.told(READING);
                    Due.lay(x, 2, 1, 1, 2, 3, 4, 5, 6);
                    char[] row = "123456".toCharArray();
                    boolean within = i + n <= 6 && j + n <= 6;
                    if (within) {
                        char[] taken = "123456".toCharArray();
                        for (int t = 0; t < n; t++) {
                            row[j + t] = taken[i + t];
                        }
                    }
                    String call = "copy(2, " + i + ", 2, " + j + ", " + n + ")";
                    due.is(call, x.copy(2, i, 2, j, n), within ? n : INDEX);
                    due.same(call, read(x, 2, 1, 6), new String(row));
                }
            }
        }
    }

    private static void copiesOfEachLane() {
        for (int lane = 0; lane < 4; lane++) {
            PinAngels x = Due.told(READING);
            x.sheet(0, lane, 24);
            x.sheet(3, lane, 24);
            for (int i = 0; i < 24; i++) {
                x.item(0, lane, i, i % 8);
            }
            due.is("all", x.copy(0, 0, 3, 0, 24), 24);
            due.same("come", read(x, 3, lane, 24), "012345670123456701234567");
            due.is("the last to the first", x.copy(3, 23, 0, 0, 1), 1);
            due.same("one came", read(x, 0, lane, 2), "71");
            due.is("one too many", x.copy(0, 0, 3, 0, 25), INDEX);
            due.is("the machine's own bounds", x.copy(0, 1, 3, 0, Integer.MAX_VALUE), INDEX);
            due.is("and of from", x.copy(0, Integer.MAX_VALUE, 3, 0, Integer.MAX_VALUE), INDEX);
            due.is("and of to", x.copy(0, 0, 3, Integer.MAX_VALUE, 2), INDEX);
        }
    }

    private static void copiesOfNone() {
        PinAngels x = new PinAngels();
        x.sheet(0, 2, 0);
        x.sheet(1, 2, 3);
        due.is("none of none", x.copy(0, 0, 0, 0, 0), 0);
        due.is("none to the end", x.copy(0, 0, 1, 3, 0), 0);
        due.is("none from the end", x.copy(1, 3, 0, 0, 0), 0);
        due.is("none behind the end", x.copy(1, 4, 0, 0, 0), INDEX);
        due.is("none to behind the end", x.copy(0, 0, 1, 4, 0), INDEX);
        due.is("none ahead of the first", x.copy(1, -1, 0, 0, 0), INDEX);
        due.is("none to ahead of the first", x.copy(0, 0, 1, -1, 0), INDEX);
        due.is("one of none", x.copy(0, 0, 1, 0, 1), INDEX);
        due.is("one to none", x.copy(1, 0, 0, 0, 1), INDEX);
        due.is("fewer than none", x.copy(1, 1, 1, 1, -1), INDEX);
        due.is("far fewer", x.copy(1, 1, 1, 1, Integer.MIN_VALUE), INDEX);
    }
}
