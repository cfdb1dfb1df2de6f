/** Part 1 of the document, sentence by sentence: what goes round, what is empty, what is full. */
public final class RoundTest {
    private static final int BAD = PinAngels.BAD;
    private static final int NOT = PinAngels.NOT;
    private static final int FULL = PinAngels.FULL;
    private static final int NONE = PinAngels.NONE;

    /** Where each KIND leads by FAR 0 to 7, from PLACES 0 to 7. */
    private static final String[][] LEADS = {
        {"01234567", "12345670", "23456701", "34567012", "45670123", "56701234", "67012345", "70123456"},
        {"01234567", "23456701", "45670123", "67012345", "01234567", "23456701", "45670123", "67012345"},
        {"07654321", "10765432", "21076543", "32107654", "43210765", "54321076", "65432107", "76543210"},
        {"01234567", "21436507", "41630527", "61032547", "01234567", "21436507", "41630527", "61032547"},
        {"47650321", "14765032", "21476503", "32147650", "03214765", "50321476", "65032147", "76503214"}};
    private static final int[][] ORDERS = {
        {1, 8, 4, 8, 2, 8, 4, 8}, {1, 4, 2, 4, 1, 4, 2, 4}, {2, 2, 2, 2, 2, 2, 2, 2}, {1, 4, 2, 4, 1, 4, 2, 4},
        {2, 4, 4, 4, 2, 4, 4, 4}};
    private static final int[][] KEEPS = {
        {255, 0, 0, 0, 0, 0, 0, 0}, {255, 0, 0, 0, 255, 0, 0, 0}, {17, 0, 34, 0, 68, 0, 136, 0},
        {255, 170, 170, 170, 255, 170, 170, 170}, {0, 0, 34, 0, 85, 0, 136, 0}};

    private static final Due due = new Due();

    public static void main(String[] args) {
        zeroIsNextToSeven();
        angelsAsTheyCome();
        noTwoAtOnePlace();
        figuresAsTheyCome();
        whereFiguresLead();
        ordersAndWhatIsKept();
        sameIsTheLeast();
        tuneOfNone();
        tuneOfOne();
        tuneOfSixteen();
        tuneTellsByTheBeat();
        beatNoughtAtFirst();
        draughtsGoRound();
        goneOnesStayGone();
        allAreGone();
        seenFromEverywhere();
        countsOfAFullRing();
        due.end("RoundTest");
    }

    /** Offsets from a place as a ring, turned till the place is v. */
    private static String ringOf(int v, int... offsets) {
        char[] signs = "........".toCharArray();
        for (int off : offsets) {
            signs[(v + off) % 8] = '*';
        }
        return new String(signs);
    }

    /** "PLACES 0 .. 7 lie in a ring (0 is next to 7)." */
    private static void zeroIsNextToSeven() {
        PinAngels x = Due.told("*......*;r1,r7,h1");
        due.is("7 is seen from 0 beside it", x.seen(0), 2);
        due.is("0 is seen from 7 beside it", x.seen(7), 2);
        due.is("0 hides 7 from 1", x.seen(1), 1);
        due.is("7 hides 0 from 6", x.seen(6), 1);
        due.is("0 and 7 are 1 apart", Due.told("*......*").apart(0, 1, 1), 1);
        due.is("r1 from 7", x.leads(0, 7), 0);
        due.is("r7 from 0", x.leads(1, 0), 7);
        due.is("r7 from 1", x.leads(1, 1), 0);
        due.is("h1 from 6", x.leads(2, 6), 0);
    }

    /** "ANGELS 0 .. 7, as they come"; 2: "its number", "FULL: 8". */
    private static void angelsAsTheyCome() {
        PinAngels x = new PinAngels();
        int[] order = {7, 0, 3, 6, 1, 5, 2, 4};
        for (int a = 0; a < 8; a++) {
            due.is("no angel " + a + " yet", x.at(a), BAD);
            due.is("angel " + a, x.angel(order[a]), a);
            due.is("so many", x.count(0), a + 1);
        }
        for (int a = 0; a < 8; a++) {
            due.is("where angel " + a + " is", x.at(a), order[a]);
        }
        due.is("the ninth", x.angel(0), FULL);
        due.is("eight", x.count(0), 8);
        // On a tape they are numbered as they come, too.
        PinAngels y = Due.told("*......*");
        due.is("first", y.at(0), 0);
        due.is("second", y.at(1), 7);
        due.is("then the third", y.angel(3), 2);
    }

    /** "are at PLACES (no two at one)": no call brings two to one. */
    private static void noTwoAtOnePlace() {
        PinAngels x = Due.told("*...*...");
        due.is("angel", x.angel(4), NOT);
        due.is("leave", x.leave(0), 0);
        due.is("come", x.come(0, 4), NOT);
        due.is("angel where one was", x.angel(0), 2);
        due.is("come where another is by now", x.come(0, 0), NOT);
        due.is("come elsewhere", x.come(0, 7), 3);
    }

    /** "FIGURES 0 .. 4, as they come, are of a KIND, FAR by 0 .. 7"; 3: "its number", "FULL: 5". */
    private static void figuresAsTheyCome() {
        PinAngels x = new PinAngels();
        for (int f = 0; f < 5; f++) {
            due.is("no figure " + f + " yet", x.of(f, 0), BAD);
            due.is("figure " + f, x.figure(4 - f, 7 * (f % 2)), f);
            due.is("so many", x.count(1), f + 1);
        }
        for (int f = 0; f < 5; f++) {
            due.is("kind of " + f, x.of(f, 0), 4 - f);
            due.is("far of " + f, x.of(f, 1), 7 * (f % 2));
        }
        due.is("the sixth", x.figure(0, 0), FULL);
    }

    /** "Where a FIGURE leads from PLACE p, by KIND (all left over by 8)": all 40 from all 8. */
    private static void whereFiguresLead() {
        for (int kind = 0; kind < 5; kind++) {
            for (int far = 0; far < 8; far++) {
                PinAngels x = new PinAngels();
                x.figure(kind, far);
                x.tune(0);
                for (int p = 0; p < 8; p++) {
                    int to = LEADS[kind][far].charAt(p) - '0';
                    due.is("kind " + kind + " by " + far + " from " + p, x.leads(0, p), to);
                    due.is("angel " + p, x.angel(p), p);
                }
                due.is("kind " + kind + " by " + far + ": all go, none is lost", x.beats(1), 255);
                for (int p = 0; p < 8; p++) {
                    due.is("by a BEAT of kind " + kind + " by " + far, x.at(p), LEADS[kind][far].charAt(p) - '0');
                }
            }
        }
    }

    /** "ORDER: how often it must be done, at least once"; "KEEPS: PLACES from which it leads to themselves". */
    private static void ordersAndWhatIsKept() {
        for (int kind = 0; kind < 5; kind++) {
            for (int far = 0; far < 8; far++) {
                PinAngels x = new PinAngels();
                x.figure(kind, far);
                due.is("order of kind " + kind + " by " + far, x.of(0, 2), ORDERS[kind][far]);
                due.is("keeps of kind " + kind + " by " + far, x.of(0, 3), KEEPS[kind][far]);
                due.is("the same as itself", x.of(0, 4), 0);
                PinAngels y = Due.told("........;c1,c3,c5,c7");
                y.figure(kind, far);
                due.is("order of the fifth, kind " + kind + " by " + far, y.of(4, 2), ORDERS[kind][far]);
                due.is("keeps of the fifth, kind " + kind + " by " + far, y.of(4, 3), KEEPS[kind][far]);
                due.is("the fifth is like one of these, or none", y.of(4, 4), kind == 4 && far % 2 == 1 ? far / 2 : 4);
            }
        }
    }

    /** "SAME: the least FIGURE that leads from all PLACES as a told one does." */
    private static void sameIsTheLeast() {
        PinAngels x = Due.told("........;m0,r2,e1,e5,r2");
        int[] same = {0, 1, 1, 1, 1};
        for (int f = 0; f < 5; f++) {
            due.is("same as " + f, x.of(f, 4), same[f]);
        }
        PinAngels first = Due.told("........;e4,h4,r0,h0,e0");
        for (int f = 0; f < 5; f++) {
            due.is("all keep all: the first", first.of(f, 4), 0);
        }
        // h1 leads from even places as e1 does, c0 from all but 0 and 4 as m0 does: not from all.
        PinAngels y = Due.told("........;e1,h1,m0,c0,h5");
        int[] own = {0, 1, 2, 3, 1};
        for (int f = 0; f < 5; f++) {
            due.is("not from all alike: " + f, y.of(f, 4), own[f]);
        }
    }

    /** "THE TUNE is a row of 0 ..": "(nowhere, if it has none). It is the next BEAT." 5: "THE TUNE has none". */
    private static void tuneOfNone() {
        PinAngels x = Due.told("*..*....;r1");
        due.is("no figure of this BEAT", x.count(6), NONE);
        due.is("how long", x.count(2), 0);
        due.is("nobody goes", x.beats(40), 9);
        due.is("but it is BEAT 40", x.count(3), 40);
        due.is("each may be undone", x.count(7), 8);
        due.is("it was of none", x.hush(), 0);
        due.is("no figures", Due.told("*.......").beats(1), 1);
    }

    private static void tuneOfOne() {
        PinAngels x = Due.told("*.......;r1:0");
        for (int t = 0; t < 17; t++) {
            due.is("the figure of BEAT " + t, x.count(6), 0);
            due.is("round the ring, BEAT " + t, x.beats(1), 1 << (t + 1) % 8);
        }
    }

    /** "a row of 0 to 16 numbers of FIGURES; it begins again behind its end." */
    private static void tuneOfSixteen() {
        String tune = "0123012301230124";
        PinAngels x = Due.told("*.......;r1,r2,r3,r4,r5:" + tune);
        int at = 0;
        for (int t = 0; t < 50; t++) {
            int figure = tune.charAt(t % 16) - '0';
            due.is("the figure of BEAT " + t, x.count(6), figure);
            at = (at + figure + 1) % 8;
            due.is("where it leads in BEAT " + t, x.beats(1), 1 << at);
        }
        PinAngels y = Due.told("*.......;r1,r5");
        for (int t = 1; t <= 16; t++) {
            due.is("number " + t, y.tune(t == 16 ? 1 : 0), t);
        }
        due.is("the seventeenth", y.tune(0), FULL);
        due.is("behind 15", y.beats(15), 1 << 7);
        due.is("the sixteenth", y.beats(1), 1 << 4);
        due.is("the first again", y.beats(1), 1 << 5);
        due.is("hushed", y.hush(), 16);
        due.is("anew", y.tune(0), 1);
    }

    /** "the FIGURE of THE TUNE .. that has the number BEAT, left over by how long THE TUNE is": as long as it is now. */
    private static void tuneTellsByTheBeat() {
        PinAngels x = Due.told("*.......;r0,r1,r2:01");
        x.beats(5);
        due.is("BEAT 5 of 2", x.count(6), 1);
        x.tune(2);
        due.is("BEAT 5 of 3", x.count(6), 2);
        x.tune(0);
        due.is("BEAT 5 of 4", x.count(6), 1);
        x.tune(0);
        due.is("BEAT 5 of 5", x.count(6), 0);
        x.hush();
        due.is("BEAT 5 of none", x.count(6), NONE);
        x.tune(2);
        due.is("BEAT 5 of 1", x.count(6), 2);
        due.is("BEAT 5", x.count(3), 5);
    }

    /** "It is BEAT 0 at first." 11: "BEAT 0". */
    private static void beatNoughtAtFirst() {
        PinAngels x = new PinAngels();
        due.is("a new object", x.count(3), 0);
        x.beats(1);
        due.is("behind one", x.count(3), 1);
        due.is("a ring", Due.tell(x, "*.......;r1,r2:01"), 1);
        due.is("BEAT 0", x.count(3), 0);
        due.is("of the first figure", x.count(6), 0);
    }

    /** "A DRAUGHT by n (1 .. 7): all are n PLACES on." */
    private static void draughtsGoRound() {
        for (int n = 1; n <= 7; n++) {
            PinAngels x = Due.told("********;r1:0");
            due.is("all by " + n, x.draught(n), 255);
            for (int a = 0; a < 8; a++) {
                due.is("angel " + a + " by " + n, x.at(a), (a + n) % 8);
            }
            due.is("no BEAT", x.count(3), 0);
        }
        due.is("nobody", new PinAngels().draught(7), 0);
    }

    /** "LEFT: an ANGEL is GONE. COME: one that is GONE is at a PLACE where none is." */
    private static void goneOnesStayGone() {
        PinAngels x = Due.told("**......;r1:0");
        due.is("left from 0", x.leave(0), 0);
        due.is("GONE", x.count(5), 1);
        due.is("no BEAT leads it", x.beats(1), 1 << 2);
        due.is("no DRAUGHT", x.draught(5), 1 << 7);
        due.is("no DRIFT, which from 1 draws no DRAUGHT first", x.drift(1), 1 << 0);
        due.is("still GONE", x.at(0), NONE);
        due.is("it is an angel all the same", x.count(0), 2);
        due.is("it is not seen", x.seen(0), 1);
        due.is("come", x.come(0, 6), 2);
        due.is("nobody is GONE", x.count(5), 0);
        due.is("it is seen", x.seen(0), 2);
        due.is("left again", x.leave(0), 6);
    }

    private static void allAreGone() {
        PinAngels x = Due.told("********;r1,m3:01");
        for (int a = 7; a >= 0; a--) {
            due.is("left", x.leave(a), a);
        }
        due.is("all are GONE", x.count(5), 255);
        due.is("none is anywhere", x.count(4), 0);
        due.is("angels", x.count(0), 8);
        due.is("a BEAT", x.beats(1), 0);
        due.is("a DRAUGHT", x.draught(3), 0);
        for (int v = 0; v < 8; v++) {
            due.is("seen from " + v, x.seen(v), 0);
        }
        due.is("sorts", x.sorts(), 1);
        due.is("as they stand", x.shortest(0, -1), 0);
        due.is("back", x.back(-1), 2);
        due.is("one comes", x.come(5, 0), 1);
        due.is("who", x.then(0, 0, 0), 5);
        for (int a = 0; a < 8; a++) {
            due.is("another comes", x.come(a, a), a == 0 || a == 5 ? NOT : a < 5 ? a + 1 : a);
        }
        due.is("the last", x.come(0, 5), 8);
        due.is("all are there", x.count(4), 255);
    }

    /**
     * "SEEN from a PLACE v: ANGELS 3 PLACES off or less (either way round; also that at v), but not one at a PLACE 2 or 3
     * off, if there is one at the PLACE next to it towards v": from all 8, so that 7 and 0 lie at each distance once.
     */
    private static void seenFromEverywhere() {
        int[][] offsets = {{}, {0}, {1}, {2}, {3}, {4}, {5}, {6}, {7}, {1, 2}, {2, 3}, {1, 3}, {1, 2, 3}, {0, 1}, {0, 2}, {6, 7},
            {5, 6}, {5, 7}, {5, 6, 7}, {3, 4}, {4, 5}, {2, 6}, {3, 5}, {1, 7}, {3, 4, 5}, {0, 1, 2, 3, 4, 5, 6, 7}, {0, 2, 6},
            {0, 1, 3, 5, 7}, {0, 1, 3, 4, 5, 7}};
        int[] seen = {0, 1, 1, 1, 1, 0, 1, 1, 1, 1, 1, 2, 1, 2, 2, 1,
            1, 2, 1, 1, 1, 2, 2, 2, 2, 3, 3,
            5, 5};
        for (int t = 0; t < offsets.length; t++) {
            for (int v = 0; v < 8; v++) {
                String ring = ringOf(v, offsets[t]);
                due.is(ring + " seen from " + v, Due.told(ring).seen(v), seen[t]);
            }
        }
        PinAngels x = Due.told("**......");
        due.is("1 is hidden from 7", x.seen(7), 1);
        x.leave(0);
        due.is("not by one who is GONE", x.seen(7), 1);
        due.is("but it is 3 off from 6", x.seen(6), 1);
        due.is("and from 4, the other way", x.seen(4), 1);
        due.is("not from 5, 4 off", x.seen(5), 0);
    }

    /** 12: each count where all is full. */
    private static void countsOfAFullRing() {
        PinAngels x = Due.told("********;r1,e1,m1,h1,c1:0123401234012340");
        x.beats(40);
        int[] counts = {8, 5, 16, 40, 255, 0, 3, 8};
        for (int what = 0; what < 8; what++) {
            due.is("full: count(" + what + ")", x.count(what), counts[what]);
        }
        due.is("count(8)", x.count(8), BAD);
        due.is("count(-1)", x.count(-1), BAD);
    }
}
