/** Part 2 of the document and promises 20 to 27, sentence by sentence. */
public final class ForetoldTest {
    private static final int BAD = PinAngels.BAD;
    private static final int NOT = PinAngels.NOT;
    private static final int NONE = PinAngels.NONE;
    private static final int MOST = 2000000000;

    private static final String[] RINGS = {
        "*..*....;r3,m2:01", "**.*.*..;h1,c3,r1:0120", "*****...;r1,e1,m1,h1,c1:0123401234012340", "*.......;r1:0", ".*.*.*.*;c1,h1:01",
        "********;c2,r7,h3:00112", "*......*;r5:000000000000000"};

    private static final Due due = new Due();

    public static void main(String[] args) {
        behindFewBeats();
        behindVeryMany();
        behindWithoutATune();
        whoIsThereThen();
        backByWholeRounds();
        backOfNone();
        backOfAll();
        beenFromNowOn();
        shortOfNone();
        shortRowsFirst();
        shortFarthest();
        sortsFromOne();
        apartNoughtToFour();
        searchesOneBehindTheOther();
        chanceOfNoBeats();
        chanceOfEight();
        chanceSums();
        due.end("ForetoldTest");
    }

    /** "behind n BEATS (0 .. ": as it is when they are done, from any BEAT of the tune on. */
    private static void behindFewBeats() {
        for (String ring : RINGS) {
            for (int ahead = 0; ahead <= 17; ahead += 4) {
                PinAngels now = Due.told(ring);
                PinAngels then = Due.told(ring);
                if (ahead > 0) {
                    now.beats(ahead);
                    then.beats(ahead);
                }
                for (int n = 0; n <= 20; n++) {
                    for (int a = 0; a < now.count(0); a++) {
                        due.is(ring + ": angel " + a + " behind " + n, now.ahead(a, n), then.at(a));
                    }
                    for (int v = 0; v < 8; v += 7) {
                        due.is(ring + ": seen from " + v + " behind " + n, now.then(v, n, 1), then.seen(v));
                    }
                    then.beats(1);
                }
            }
        }
    }

    /** ".. 2000000000)": whole times that all are back (at most 128 BEATS) are left out, the rest is done. */
    private static void behindVeryMany() {
        for (String ring : RINGS) {
            for (int less = 0; less <= 3; less++) {
                PinAngels now = Due.told(ring);
                now.beats(1);
                PinAngels then = Due.told(ring);
                then.beats(1);
                int rest = (MOST - less) % (8 * now.count(2));
                for (int t = 0; t < rest; t++) {
                    then.beats(1);
                }
                for (int a = 0; a < now.count(0); a++) {
                    due.is(ring + ": angel " + a + " behind " + (MOST - less), now.ahead(a, MOST - less), then.at(a));
                    due.is(ring + ": who is there then", now.then(then.at(a), MOST - less, 0), a);
                }
                for (int v = 0; v < 8; v++) {
                    due.is(ring + ": seen from " + v + " then", now.then(v, MOST - less, 1), then.seen(v));
                }
            }
            PinAngels x = Due.told(ring);
            due.is(ring + ": one too many", x.ahead(0, MOST + 1), BAD);
            due.is(ring + ": one too many for a place", x.then(0, MOST + 1, 0), BAD);
            due.is(ring + ": one too many for what is seen", x.then(0, MOST + 1, 1), BAD);
        }
    }

    private static void behindWithoutATune() {
        PinAngels x = Due.told("..*....*;r1");
        due.is("nobody goes", x.ahead(0, MOST), 2);
        due.is("nor the other", x.ahead(1, MOST), 7);
        due.is("who", x.then(7, MOST, 0), 1);
        due.is("seen", x.then(0, MOST, 1), 2);
        due.is("nobody at all", new PinAngels().then(0, MOST, 1), 0);
        due.is("nobody there", new PinAngels().then(7, MOST, 0), NONE);
    }

    /** 21: "0 who is at a PLACE (NONE)". */
    private static void whoIsThereThen() {
        PinAngels x = Due.told("*......*;r1:0");
        for (int v = 0; v < 8; v++) {
            for (int n = 0; n < 9; n++) {
                int want = n % 8 == v ? 0 : (7 + n) % 8 == v ? 1 : NONE;
                due.is("who is at " + v + " behind " + n, x.then(v, n, 0), want);
            }
        }
        x.leave(0);
        due.is("not one who is GONE", x.then(0, 0, 0), NONE);
        due.is("nor then", x.then(1, 1, 0), NONE);
        due.is("nor seen", x.then(0, 0, 1), 1);
        due.is("the other is", x.then(0, 1, 0), 1);
    }

    /** "BACK: the fewest BEATS, a multiple of how long THE TUNE is (but not 0)". */
    private static void backByWholeRounds() {
        due.is("r0: behind one round, not behind none", Due.told("*.......;r0:0").back(0), 1);
        due.is("r0, 16 long", Due.told("*.......;r0:0000000000000000").back(0), 16);
        due.is("r4 twice is back, but within a round of 3", Due.told("*.......;r4:000").back(0), 6);
        due.is("r4 twice is a round of 2", Due.told("*.......;r4:00").back(0), 2);
        due.is("r1, 16 long: two times round", Due.told("*.......;r1:0000000000000000").back(0), 16);
        due.is("r1, 15 long: the most rounds", Due.told("*.......;r1:000000000000000").back(0), 120);
        due.is("16 long, 15 on a round", Due.told("*.......;r1,r0:0000000000000001").back(0), 128);
        due.is("all likewise", Due.told("********;r1,r0:0000000000000001").back(-1), 128);
        PinAngels x = Due.told("*.......;r1,r2:01");
        x.beats(1);
        due.is("from within the tune, too", x.back(0), 16);
    }

    /** "(0: THE TUNE has none)"; 22: "one (GONE: how long THE TUNE is)". */
    private static void backOfNone() {
        PinAngels x = Due.told("*.*.....;r1");
        due.is("no tune: all", x.back(-1), 0);
        due.is("no tune: one", x.back(1), 0);
        x.leave(1);
        due.is("no tune: GONE", x.back(1), 0);
        x.tune(0);
        x.tune(0);
        x.tune(0);
        due.is("GONE", x.back(1), 3);
        due.is("one who is there", x.back(0), 24);
        due.is("all that are not GONE", x.back(-1), 24);
        x.leave(0);
        due.is("all are GONE", x.back(-1), 3);
        due.is("nobody", Due.told("........;r1:000").back(-1), 3);
        due.is("nobody, no tune", new PinAngels().back(-1), 0);
        due.is("nobody: no angel 0", new PinAngels().back(0), BAD);
    }

    /** "all ANGELS that are not GONE are where they are now": each for itself, and the first time that all are. */
    private static void backOfAll() {
        for (String ring : RINGS) {
            PinAngels x = Due.told(ring);
            int length = x.count(2);
            int angels = x.count(0);
            int[] first = new int[angels];
            int all = 0;
            PinAngels y = Due.told(ring);
            for (int t = 1; t <= 128 && all == 0; t++) {
                y.beats(1);
                boolean home = t % length == 0;
                for (int a = 0; a < angels && t % length == 0; a++) {
                    boolean back = y.at(a) == x.at(a);
                    home &= back;
                    first[a] = back && first[a] == 0 ? t : first[a];
                }
                all = home ? t : 0;
            }
            for (int a = 0; a < angels; a++) {
                due.is(ring + ": back(" + a + ")", x.back(a), first[a]);
            }
            due.is(ring + ": back(-1)", x.back(-1), all);
        }
    }

    /** "BEEN of an ANGEL: PLACES at which it is behind 0, 1, 2, .. BEATS, however many"; 23: "GONE: 0". */
    private static void beenFromNowOn() {
        due.is("behind 0 BEATS, no tune", Due.told(".......*").been(0), 1 << 7);
        due.is("r0", Due.told(".......*;r0:0").been(0), 1 << 7);
        due.is("r4", Due.told(".......*;r4:0").been(0), 1 << 7 | 1 << 3);
        due.is("seven rounds on", Due.told("*.......;r1:0").been(0), 255);
        due.is("the last place of the last round", Due.told("*.......;r1,r0:0111111111111111").been(0), 255);
        due.is("within a round", Due.told("*.......;r1,r7:01").been(0), 3);
        PinAngels x = Due.told("*.......;r3,r0:0111");
        due.is("at first", x.been(0), 255);
        x.hush();
        x.beats(1);
        due.is("no tune", x.been(0), 1);
        PinAngels y = Due.told("*.*.....;r2,r6:0011");
        y.beats(2);
        due.is("from now on, not before: it comes back all the same", y.been(0), 1 | 1 << 2 | 1 << 4);
        y.leave(0);
        due.is("GONE", y.been(0), 0);
        due.is("the other", y.been(1), 1 << 6 | 1 << 4 | 1 << 2);
    }

    /** "(0: they do)", "none"; 24: "NONE: not so many". */
    private static void shortOfNone() {
        PinAngels x = Due.told("*.*.....;r1");
        due.is("they do", x.shortest(5, -1), 0);
        due.is("no first FIGURE of none", x.shortest(5, 0), NONE);
        due.is("too few places", x.shortest(1, -1), NONE);
        due.is("too many", x.shortest(7, -1), NONE);
        due.is("as many, but no row of r1 leads there", x.shortest(3, -1), NONE);
        due.is("nor a first FIGURE", x.shortest(3, 0), NONE);
        due.is("none at all", x.shortest(0, -1), NONE);
        due.is("all", x.shortest(255, -1), NONE);
        PinAngels none = Due.told("*.*.....");
        due.is("no figures: they do", none.shortest(5, -1), 0);
        due.is("no figures: elsewhere", none.shortest(10, -1), NONE);
        PinAngels nobody = Due.told("........;r1,m2");
        due.is("nobody", nobody.shortest(0, -1), 0);
        due.is("nobody, elsewhere", nobody.shortest(1, -1), NONE);
        PinAngels all = Due.told("********;r1,c3");
        due.is("all stand everywhere", all.shortest(255, -1), 0);
        due.is("not at all but one", all.shortest(127, -1), NONE);
    }

    private static String row(PinAngels x, int set) {
        StringBuilder b = new StringBuilder();
        int n = x.shortest(set, -1);
        for (int k = 0; k < n; k++) {
            b.append(x.shortest(set, k));
        }
        return b.append(x.shortest(set, n < 0 ? 0 : n) == NONE ? "" : "?").toString();
    }

    /** "at least .. of like rows the first (by numbers, rising): how many; the k-th FIGURE". Rows found by trying all. */
    private static void shortRowsFirst() {
        String[] rings = {"**......;r1,h1", "**......;h1,r1", "***.....;r1,c0", "*.......;r7,r1", "*.......;r3,r1,e2"};
        int[][] sets = {
            {3, 6, 12, 18, 24, 36, 66, 48, 72, 132, 96, 144, 9, 192, 33, 129},
            {3, 6, 18, 12, 66, 36, 24, 132, 48, 72, 144, 9, 96, 192, 33, 129},
            {7, 14, 208, 28, 224, 161, 56, 97, 193, 67, 26, 112, 41, 194, 131, 22, 134, 148, 52, 13, 82, 133, 146, 44, 104, 73, 164,
                11, 37, 88, 74, 176},
            {1, 128, 2, 64, 4, 32, 8, 16},
            {1, 8, 2, 16, 64, 128, 4, 32}};
        String[][] rows = {
            {"", "0", "00", "01", "000", "010", "011", "0000", "0001", "0110", "00000", "00010", "00011", "000000", "000001",
                "0000000"},
            {"", "0", "00", "01", "000", "001", "010", "0001", "0010", "0011", "00010", "00011", "00100", "000100", "000101",
                "0001000"},
            {"", "0", "1", "00", "01", "10", "000", "001", "010", "100", "101", "0000", "0001", "0010", "0100", "0101", "1000",
                "1001", "1010", "00001", "00010", "00100", "01001", "01010", "10100", "10101", "000100", "001000", "010010",
                "010100", "0001001", "0010001"},
            {"", "0", "1", "00", "11", "000", "111", "0000"},
            {"", "0", "1", "2", "00", "02", "11", "12"}};
        for (int t = 0; t < rings.length; t++) {
            PinAngels x = Due.told(rings[t]);
            due.is(rings[t] + ": sorts", x.sorts(), sets[t].length);
            for (int s = 0; s < sets[t].length; s++) {
                due.same(rings[t] + ": to " + sets[t][s], row(x, sets[t][s]), rows[t][s]);
            }
        }
        PinAngels like = Due.told("*.......;r1,r1");
        due.same("like figures: the first", row(like, 1 << 3), "000");
    }

    private static void shortFarthest() {
        PinAngels x = Due.told("*.......;r1");
        due.same("seven", row(x, 1 << 7), "0000000");
        PinAngels y = Due.told("*.......;r7:0");
        due.same("seven the other way", row(y, 1 << 1), "0000000");
        y.beats(3);
        due.same("from now, whatever the BEAT", row(y, 1 << 1), "0000");
    }

    /** "SORTS: at how many sets of PLACES they can come to stand so": as they stand is one. */
    private static void sortsFromOne() {
        due.is("nobody", new PinAngels().sorts(), 1);
        due.is("no figures", Due.told("*.*.....").sorts(), 1);
        due.is("all", Due.told("********;r1,c0,h1").sorts(), 1);
        due.is("r0", Due.told("*.*.....;r0").sorts(), 1);
        due.is("one", Due.told("*.......;r1").sorts(), 8);
        due.is("all but one", Due.told("*******.;r1").sorts(), 8);
        due.is("the even ones", Due.told("*.*.*.*.;r1,m0,c0,h1").sorts(), 2);
        due.is("two", Due.told("**......;r1,m0,c0,h1").sorts(), 16);
        due.is("three", Due.told("***.....;r1,m0,c0,h1").sorts(), 32);
        due.is("four", Due.told("***.*...;r1,m0,c0,h1").sorts(), 32);
        due.is("whoever where", Due.told("*...*...;r4").sorts(), 1);
    }

    /** "as far from one another as can be by any (0 .. 4 PLACES, the shorter way round), at least: how many; how far." */
    private static void apartNoughtToFour() {
        String[] rings = {"**......;r1", "*.*.....;r1", "*..*....;r1", "*...*...;r1", "*....*..;r1", "*.....*.;r1", "*......*;r1",
            "**......;h1", "*......*;h1", "**......;c0", "**......;r1,c2", "*......*;r1,c1", "*......*", "*...*...", "**......;h7,h1"};
        int[] far = {1, 2, 3, 4, 3, 2, 1, 3, 3, 3, 3, 3, 1, 4, 3};
        int[] many = {0, 0, 0, 0, 0, 0, 0, 2, 1, 1, 2, 2, 0, 0, 1};
        for (int t = 0; t < rings.length; t++) {
            PinAngels x = Due.told(rings[t]);
            due.is(rings[t] + ": how far", x.apart(0, 1, 1), far[t]);
            due.is(rings[t] + ": the other way", x.apart(1, 0, 1), far[t]);
            due.is(rings[t] + ": how many", x.apart(0, 1, 0), many[t]);
            due.is(rings[t] + ": how many, the other way", x.apart(1, 0, 0), many[t]);
        }
        PinAngels x = Due.told("**.*....;h1");
        due.is("of three, two", x.apart(0, 2, 1), 3);
        due.is("they are", x.apart(0, 2, 0), 0);
        x.leave(1);
        due.is("one is GONE", x.apart(1, 2, 0), NOT);
        due.is("not these", x.apart(0, 2, 1), 3);
    }

    /** What was searched for in one ring is of no matter in the next. */
    private static void searchesOneBehindTheOther() {
        PinAngels x = new PinAngels();
        for (int t = 0; t < 3; t++) {
            Due.tell(x, "***.....;r1,m0,c0,h1");
            due.is("of three", x.sorts(), 32);
            due.is("two of three", x.apart(0, 1, 1), 3);
            Due.tell(x, "**......;r1");
            due.is("by r1 alone: how far", x.apart(0, 1, 1), 1);
            due.is("by r1 alone: how many", x.apart(0, 1, 0), 0);
            due.is("by r1 alone: sorts", x.sorts(), 8);
            due.is("by r1 alone: not there", x.shortest(5, -1), NONE);
            Due.tell(x, "**......");
            due.is("by none: how far", x.apart(0, 1, 1), 1);
            due.is("by none: sorts", x.sorts(), 1);
            due.is("by none: not there", x.shortest(6, -1), NONE);
            due.is("by none: nor a figure", x.shortest(6, 0), NONE);
        }
    }

    /** "n BEATS (0 .. 8)": behind none it is where it is. */
    private static void chanceOfNoBeats() {
        PinAngels x = Due.told(".......*;r1,r2,r3");
        for (int p = 0; p < 8; p++) {
            due.is("above, at " + p, x.chance(0, p, 0, 0), p == 7 ? 1 : 0);
            due.is("below, at " + p, x.chance(0, p, 0, 1), 1);
        }
    }

    /** "a fraction in lowest terms". */
    private static void chanceOfEight() {
        String[] rings = {"*.......;r1,r7", "*.......;r1,m2,c3,h1,e3", "*.......;r1,m2,c3,h1,e3", "*.......;r0,r0,r0,r0,r1",
            "*.......;r0,r0,r0,r0,r1", "*.......;r1,r2,r3", ".*......;h1", "*.......;r4", "...*....;r0,r0,r0,r0,r0", "*.......;r2"};
        int[] place = {0, 5, 0, 0, 7, 4, 1, 0, 3, 1};
        int[] above = {9, 47748, 50769, 65537, 32, 532, 1, 1, 1, 0};
        int[] below = {32, 390625, 390625, 390625, 390625, 6561, 1, 1, 1, 1};
        for (int t = 0; t < rings.length; t++) {
            PinAngels x = Due.told(rings[t]);
            due.is(rings[t] + ": above", x.chance(0, place[t], 8, 0), above[t]);
            due.is(rings[t] + ": below", x.chance(0, place[t], 8, 1), below[t]);
        }
        PinAngels one = Due.told("*.......;r1,r1,r0");
        due.is("each as likely: 2 of 3", one.chance(0, 1, 1, 0), 2);
        due.is("of 3", one.chance(0, 1, 1, 1), 3);
        PinAngels tune = Due.told("*.......;r1,r2:0");
        due.is("any FIGURE, whatever THE TUNE: 1", tune.chance(0, 2, 1, 0), 1);
        due.is("of 2", tune.chance(0, 2, 1, 1), 2);
    }

    /** It is somewhere: what is above, by one number below, comes to this number. */
    private static void chanceSums() {
        for (int figures = 1; figures <= 5; figures++) {
            PinAngels x = Due.told("..*.....;" + "r1,c3,h1,m5,e3".substring(0, 3 * figures - 1));
            long all = 1;
            for (int n = 0; n <= 8; n++) {
                long sum = 0;
                for (int p = 0; p < 8; p++) {
                    sum += all / x.chance(0, p, n, 1) * x.chance(0, p, n, 0);
                }
                due.is(figures + " figures, " + n + " BEATS", sum, all);
                all *= figures;
            }
        }
    }
}
