/** Each promise by worked cases: ordinary inputs, the edges that the document names, wrong inputs. */
public final class PromisesTest {
    private static final Due due = new Due();
    private static final int LOW = Integer.MIN_VALUE;
    private static final int HIGH = Integer.MAX_VALUE;

    public static void main(String[] args) {
        p1();
        p2();
        p3();
        p4();
        p5();
        p6();
        p7();
        p8();
        p9();
        p10();
        p11();
        p11Faults();
        p12();
        p13();
        p14();
        p15();
        p16();
        p17();
        p18();
        p18Cleared();
        p19();
        p20();
        p21();
        p22();
        p23();
        p24();
        p25();
        p26();
        p27();
        p28And29();
        p30();
        p31();
        p32();
        p33();
        p34();
        p35();
        p36();
        refusedChangesNothing();
        due.end("PromisesTest");
    }

    private static void p1() {
        PinAngels x = new PinAngels();
        for (int what = 0; what <= 5; what++) {
            due.is("1: count(" + what + ")", x.count(what), 0);
        }
        due.is("1: count(6)", x.count(6), PinAngels.NONE);
        due.is("1: count(7)", x.count(7), 0);
        due.is("1: undo", x.undo(), PinAngels.NONE);
        due.is("1: restore", x.restore(), PinAngels.NONE);
        due.is("1: the draw is 1", x.seed(5), 1);
        for (int s = 0; s < 4; s++) {
            due.is("1: no sheet " + s, x.drop(s), PinAngels.NULL);
        }
        due.is("1: the tape is empty", x.ring(), -20);
    }

    private static void p2() {
        PinAngels x = new PinAngels();
        due.is("2: below", x.angel(-1), PinAngels.BAD);
        due.is("2: above", x.angel(8), PinAngels.BAD);
        due.is("2: far below", x.angel(LOW), PinAngels.BAD);
        due.is("2: far above", x.angel(HIGH), PinAngels.BAD);
        for (int a = 0; a < 8; a++) {
            due.is("2: its number", x.angel(7 - a), a);
            due.is("2: one is there, or FULL first", x.angel(7 - a), a == 7 ? PinAngels.FULL : PinAngels.NOT);
        }
        due.is("2: BAD ahead of FULL", x.angel(8), PinAngels.BAD);
        due.is("2: its place", x.at(2), 5);
        x.leave(2);
        due.is("2: one who is GONE is still an angel", x.angel(5), PinAngels.FULL);
        PinAngels y = Due.told("*.......");
        y.leave(0);
        due.is("2: where none is now", y.angel(0), 1);
        due.is("2: two at one place can't be", y.come(0, 0), PinAngels.NOT);
    }

    private static void p3() {
        PinAngels x = new PinAngels();
        due.is("3: kind below", x.figure(-1, 0), PinAngels.BAD);
        due.is("3: kind above", x.figure(5, 0), PinAngels.BAD);
        due.is("3: far below", x.figure(0, -1), PinAngels.BAD);
        due.is("3: far above", x.figure(0, 8), PinAngels.BAD);
        for (int f = 0; f < 5; f++) {
            due.is("3: its number", x.figure(f, 7 - f), f);
        }
        due.is("3: FULL", x.figure(0, 0), PinAngels.FULL);
        due.is("3: BAD ahead of FULL", x.figure(0, 8), PinAngels.BAD);
        due.is("3: its kind", x.of(3, 0), 3);
        due.is("3: its far", x.of(3, 1), 4);
    }

    private static void p4() {
        PinAngels x = new PinAngels();
        due.is("4: no figures", x.tune(0), PinAngels.BAD);
        x.figure(0, 1);
        x.figure(0, 2);
        due.is("4: below", x.tune(-1), PinAngels.BAD);
        due.is("4: above", x.tune(2), PinAngels.BAD);
        for (int t = 1; t <= 16; t++) {
            due.is("4: how long", x.tune(t % 2), t);
        }
        due.is("4: FULL", x.tune(0), PinAngels.FULL);
        due.is("4: BAD ahead of FULL", x.tune(2), PinAngels.BAD);
        due.is("4: the first", x.count(6), 1);
        x.beats(1);
        due.is("4: the second", x.count(6), 0);
        PinAngels y = Due.told("*.......;r1:0");
        y.beats(3);
        y.tune(0);
        due.is("4: the beat stays", y.count(3), 3);
    }

    private static void p5() {
        PinAngels x = Due.told("*.......;r1:000");
        x.beats(2);
        due.is("5: how long it was", x.hush(), 3);
        due.is("5: it has none", x.hush(), 0);
        due.is("5: count(2)", x.count(2), 0);
        due.is("5: figures stay", x.count(1), 1);
        due.is("5: the beat stays", x.count(3), 2);
        due.is("5: nobody goes", x.beats(1), 4);
        due.is("5: it begins anew", x.tune(0), 1);
    }

    private static void p6() {
        PinAngels x = Due.told("........;r4,h2,e4,r0,m0");
        int[] kinds = {0, 3, 1, 0, 2};
        int[] fars = {4, 2, 4, 0, 0};
        int[] orders = {2, 2, 1, 1, 2};
        int[] keeps = {0, 0xAA, 255, 255, 0x11};
        int[] same = {0, 1, 2, 2, 4};
        for (int f = 0; f < 5; f++) {
            due.is("6: kind", x.of(f, 0), kinds[f]);
            due.is("6: far", x.of(f, 1), fars[f]);
            due.is("6: order", x.of(f, 2), orders[f]);
            due.is("6: keeps", x.of(f, 3), keeps[f]);
            due.is("6: same", x.of(f, 4), same[f]);
        }
        due.is("6: no such figure", x.of(5, 0), PinAngels.BAD);
        due.is("6: below", x.of(-1, 0), PinAngels.BAD);
        due.is("6: what above", x.of(0, 5), PinAngels.BAD);
        due.is("6: what below", x.of(0, -1), PinAngels.BAD);
        // c0 leads 0 to 4 to 0, 1 to 7 to 1, 2 to 6 to 2, 3 to 5 to 3.
        PinAngels y = Due.told("........;c0,c1,r3,e2,h1");
        due.is("6: c0's order", y.of(0, 2), 2);
        due.is("6: c0 keeps none", y.of(0, 3), 0);
        // c1: 0 to 1 to 4 to 5 to 0 (5 would come to 4); 2 to 7, 3 to 6.
        due.is("6: c1's order", y.of(1, 2), 4);
        due.is("6: r3's order", y.of(2, 2), 8);
        due.is("6: e2's order", y.of(3, 2), 2);
        due.is("6: h1's order", y.of(4, 2), 4);
        PinAngels z = Due.told("........;e4,h4,r0,h0,e0");
        for (int f = 0; f < 5; f++) {
            due.is("6: all lead nowhere", z.of(f, 4), 0);
        }
    }

    private static void p7() {
        PinAngels x = Due.told("........;r5,e3,m3,h3,c3");
        int[][] leads = {
            {5, 6, 7, 0, 1, 2, 3, 4},
            {6, 7, 0, 1, 2, 3, 4, 5},
            {3, 2, 1, 0, 7, 6, 5, 4},
            {6, 1, 0, 3, 2, 5, 4, 7},
            {3, 2, 1, 4, 7, 6, 5, 0}};
        for (int f = 0; f < 5; f++) {
            for (int p = 0; p < 8; p++) {
                due.is("7: leads(" + f + ", " + p + ")", x.leads(f, p), leads[f][p]);
            }
        }
        due.is("7: no figure", x.leads(5, 0), PinAngels.BAD);
        due.is("7: figure below", x.leads(-1, 0), PinAngels.BAD);
        due.is("7: place above", x.leads(0, 8), PinAngels.BAD);
        due.is("7: place below", x.leads(0, -1), PinAngels.BAD);
    }

    private static void p8() {
        PinAngels x = Due.told("..*....*");
        due.is("8: first", x.at(0), 2);
        due.is("8: second", x.at(1), 7);
        due.is("8: none such", x.at(2), PinAngels.BAD);
        due.is("8: below", x.at(-1), PinAngels.BAD);
        x.leave(1);
        due.is("8: GONE", x.at(1), PinAngels.NONE);
    }

    private static void p9() {
        PinAngels all = Due.told("********");
        for (int v = 0; v < 8; v++) {
            due.is("9: all stand, from " + v, all.seen(v), 3);
        }
        PinAngels one = Due.told("*.......");
        int[] seen = {1, 1, 1, 1, 0, 1, 1, 1};
        for (int v = 0; v < 8; v++) {
            due.is("9: one, from " + v, one.seen(v), seen[v]);
        }
        PinAngels two = Due.told("*.*.....");
        due.is("9: one at the place hides nobody", two.seen(0), 2);
        due.is("9: 1 off and 3 off", two.seen(7), 2);
        PinAngels near = Due.told("**......");
        due.is("9: 1 off is seen beside 0", near.seen(0), 2);
        due.is("9: 2 off is hidden by 1 off", near.seen(7), 1);
        due.is("9: 3 off is hidden by 2 off", near.seen(6), 1);
        due.is("9: 3 off alone, for 4 off is too far", near.seen(5), 1);
        due.is("9: from the other side", near.seen(2), 1);
        due.is("9: 3 off is hidden by one who is hidden", Due.told("***.....").seen(7), 1);
        due.is("9: above", near.seen(8), PinAngels.BAD);
        due.is("9: below", near.seen(-1), PinAngels.BAD);
    }

    private static void p10() {
        PinAngels x = new PinAngels();
        due.is("10: 31", x.type(31), PinAngels.BAD);
        due.is("10: 127", x.type(127), PinAngels.BAD);
        due.is("10: below 0", x.type(-1), PinAngels.BAD);
        due.is("10: 32", x.type(32), 1);
        due.is("10: 126", x.type(126), 2);
        for (int i = 3; i <= 60; i++) {
            due.is("10: how many", x.type(32), i);
        }
        due.is("10: FULL", x.type(32), PinAngels.FULL);
        due.is("10: BAD ahead of FULL", x.type(31), PinAngels.BAD);
        due.is("10: what was typed", x.ring(), -21);
        due.is("10: empty then", x.type(46), 1);
    }

    private static void p11() {
        PinAngels x = new PinAngels();
        due.is("11: places alone", Due.tell(x, "*.*.*..*"), 4);
        due.is("11: third", x.at(2), 4);
        due.is("11: no figures", x.count(1), 0);
        due.is("11: blanks", Due.tell(x, "  . * .. ....  ;  r 3 , c7 : 0 1 1  "), 1);
        due.is("11: figures", x.count(1), 2);
        due.is("11: kind", x.of(1, 0), 4);
        due.is("11: far", x.of(1, 1), 7);
        due.is("11: tune", x.count(2), 3);
        x.seed(77);
        x.beats(5);
        x.leave(0);
        due.is("11: no tune", Due.tell(x, "........;e1"), 0);
        due.is("11: none is left", x.count(2), 0);
        due.is("11: figures anew", x.count(1), 1);
        due.is("11: beat 0", x.count(3), 0);
        due.is("11: nobody is GONE", x.count(5), 0);
        due.is("11: nothing to be undone", x.undo(), PinAngels.NONE);
        due.is("11: the draw stays", x.seed(1), 77);
        due.is("11: the longest", Due.tell(x, "********;r0,e1,m2,h3,c7:0123401234012340"), 8);
        due.is("11: its tune", x.count(2), 16);
        due.is("11: its figures", x.count(1), 5);
    }

    private static void p11Faults() {
        String[] texts = {"", "   ", ".......", "....... ", "x", " x", "*.*.*.*+", "........ .", "........:0", "........;", "........;:",
            "........;x", "........;r", "........;r8", "........;r9", "........;r,", "........;r0,", "........;r0,:", "........;r0;",
            "........;r0:", "........;r0:1", "........;r0:0,", "........;r0,r1:2", "........;r0,r1:012", "........;R0",
            "........;r0,r0,r0,r0,r0,r0", "........;r0:00000000000000000", "........;r0: 0 x", "........ ; r 0 , ",
            "........;r0 r1", "........;r00"};
        int[] faults = {0, 3, 7, 8, 0, 1, 7, 9, 8, 9, 9,
            9, 10, 10, 10, 10, 12, 12, 11,
            12, 12, 13, 15, 17, 9,
            23, 28, 15, 17,
            12, 11};
        for (int i = 0; i < texts.length; i++) {
            PinAngels x = Due.told("*.*.....;r1,m2:01");
            x.seed(9);
            x.beats(3);
            due.is("11: '" + texts[i] + "'", Due.tell(x, texts[i]), -20 - faults[i]);
            due.is("11: angels stay", x.count(0), 2);
            due.is("11: figures stay", x.count(1), 2);
            due.is("11: the tune stays", x.count(2), 2);
            due.is("11: the beat stays", x.count(3), 3);
            due.is("11: what may be undone stays", x.count(7), 3);
            due.is("11: the draw stays", x.seed(0), 9);
            due.is("11: but the tape is empty", x.type('.'), 1);
        }
    }

    private static void p12() {
        PinAngels x = Due.told("*.*....*;r1,m2:011");
        x.beats(1);
        x.leave(1);
        int[] counts = {3, 2, 3, 1, 0b00000011, 0b010, 1, 2};
        for (int what = 0; what < 8; what++) {
            due.is("12: count(" + what + ")", x.count(what), counts[what]);
        }
        x.beats(2);
        due.is("12: the tune begins again", x.count(6), 0);
        due.is("12: above", x.count(8), PinAngels.BAD);
        due.is("12: below", x.count(-1), PinAngels.BAD);
    }

    private static void p13() {
        PinAngels x = Due.told("*..*....;r3,m2:01");
        due.is("13: r3", x.beats(1), 1 << 3 | 1 << 6);
        due.is("13: m2", x.beats(1), 1 << 7 | 1 << 4);
        due.is("13: none", x.beats(0), PinAngels.BAD);
        due.is("13: too many", x.beats(41), PinAngels.BAD);
        due.is("13: below", x.beats(-1), PinAngels.BAD);
        due.is("13: both, and once more", x.beats(3), 1 << 3 | 1 << 6);
        due.is("13: each may be undone", x.count(7), 5);
        PinAngels y = Due.told("*.......;r1:0");
        for (int t = 0; t < 249; t++) {
            y.beats(40);
        }
        due.is("13: so far", y.count(3), 9960);
        due.is("13: FULL", y.beats(40), PinAngels.FULL);
        due.is("13: FULL, drifting", y.drift(40), PinAngels.FULL);
        due.is("13: BAD ahead of FULL", y.beats(41), PinAngels.BAD);
        due.is("13: nothing is done", y.count(3), 9960);
        due.is("13: up to 9999", y.beats(39), 1 << 7);
        due.is("13: the last", y.count(3), 9999);
        due.is("13: one more", y.beats(1), PinAngels.FULL);
        due.is("13: one more, drifting", y.drift(1), PinAngels.FULL);
        due.is("13: foretold all the same", y.ahead(0, 2), 1);
        due.is("13: the draw is as it was", y.seed(0), 1);
    }

    private static void p14() {
        PinAngels x = Due.told("*.....**");
        x.leave(1);
        due.is("14: by 1", x.draught(1), 0b11);
        due.is("14: round the ring", x.at(2), 0);
        due.is("14: who is GONE stays so", x.at(1), PinAngels.NONE);
        due.is("14: by 7", x.draught(7), 0b10000001);
        due.is("14: no beat", x.count(3), 0);
        due.is("14: by 0", x.draught(0), PinAngels.BAD);
        due.is("14: by 8", x.draught(8), PinAngels.BAD);
        due.is("14: by less", x.draught(-1), PinAngels.BAD);
        due.is("14: may be undone", x.count(7), 3);
    }

    private static void p15() {
        PinAngels x = Due.told("..*..*..;r1:0");
        due.is("15: where it was", x.leave(1), 5);
        due.is("15: GONE", x.leave(1), PinAngels.NOT);
        due.is("15: none such", x.leave(2), PinAngels.BAD);
        due.is("15: below", x.leave(-1), PinAngels.BAD);
        due.is("15: may be undone", x.count(7), 1);
        due.is("15: it does not go on", x.beats(1), 1 << 3);
        due.is("15: it is an angel still", x.count(0), 2);
    }

    private static void p16() {
        PinAngels x = Due.told("*.*.*...");
        x.leave(0);
        x.leave(2);
        due.is("16: how many are there", x.come(2, 0), 2);
        due.is("16: not GONE", x.come(2, 7), PinAngels.NOT);
        due.is("16: one is there", x.come(0, 2), PinAngels.NOT);
        due.is("16: none such", x.come(3, 1), PinAngels.BAD);
        due.is("16: no angel below", x.come(-1, 1), PinAngels.BAD);
        due.is("16: no place", x.come(0, 8), PinAngels.BAD);
        due.is("16: no place below", x.come(0, -1), PinAngels.BAD);
        due.is("16: BAD ahead of NOT", x.come(1, 8), PinAngels.BAD);
        due.is("16: all", x.come(0, 4), 3);
        due.is("16: where told", x.at(0), 4);
        due.is("16: may be undone", x.count(7), 4);
    }

    private static void p17() {
        // From 1 the draw becomes 1103527590: by 65536 that is 16838, left over by 4: 2, no draught.
        PinAngels x = Due.told("*.......;r1:0");
        due.is("17: no draught", x.drift(1), 1 << 1);
        due.is("17: the draw", x.seed(1), 1103527590);
        // From 0 it becomes 12345: by 65536 that is 0: a draught by 1 and 96 left over by 7, which is 6.
        x.seed(0);
        due.is("17: a draught by 6, a beat by 1", x.drift(1), 1 << 0);
        due.is("17: both are undone as one", x.undo(), 1);
        due.is("17: where it was", x.at(0), 1);
        due.is("17: the draw as it was", x.seed(0), 0);
        due.is("17: none", x.drift(0), PinAngels.BAD);
        due.is("17: too many", x.drift(41), PinAngels.BAD);
        due.is("17: many", x.drift(40) != 0 ? 1 : 0, 1);
        due.is("17: the beat", x.count(3), 41);
        due.is("17: eight are known", x.count(7), 8);
        // The draught is ahead of the beat: m0 would lead 1 + 6 to 1, the other way round 7 + 6 to 5.
        PinAngels y = Due.told(".*......;m0:0");
        y.seed(0);
        due.is("17: the draught first", y.drift(1), 1 << 1);
        PinAngels z = Due.told(".*......");
        z.seed(HIGH);
        // 2147483647 times 1103515245 and 12345 more leaves 1043980748: by 65536 15929, left over by 4: 1.
        due.is("17: the greatest draw", z.drift(1), 1 << 1);
        due.is("17: what it becomes", z.seed(0), 1043980748);
    }

    private static void p18() {
        PinAngels x = Due.told("*...*...;r1:0");
        due.is("18: none", x.undo(), PinAngels.NONE);
        x.beats(1);
        x.draught(2);
        x.leave(0);
        x.come(0, 6);
        due.is("18: come", x.undo(), 3);
        due.is("18: GONE again", x.at(0), PinAngels.NONE);
        due.is("18: left", x.undo(), 2);
        due.is("18: there again", x.at(0), 3);
        due.is("18: draught", x.undo(), 1);
        due.is("18: as behind the beat", x.count(4), 1 << 1 | 1 << 5);
        due.is("18: the beat", x.count(3), 1);
        due.is("18: beat", x.undo(), 0);
        due.is("18: as at first", x.count(4), 1 << 0 | 1 << 4);
        due.is("18: beat 0", x.count(3), 0);
        due.is("18: none more", x.undo(), PinAngels.NONE);
        x.beats(10);
        for (int left = 7; left >= 0; left--) {
            due.is("18: eight are known", x.undo(), left);
        }
        due.is("18: older ones are lost", x.undo(), PinAngels.NONE);
        due.is("18: two beats stand", x.count(3), 2);
        x.seed(5);
        x.beats(1);
        x.seed(6);
        x.undo();
        due.is("18: the draw as ahead of it, whatever was told since", x.seed(0), 5);
    }

    private static void p18Cleared() {
        for (int how = 0; how < 9; how++) {
            PinAngels x = Due.told("*.......;r1:0");
            x.beats(3);
            switch (how) {
                case 0: x.angel(7); break;
                case 1: x.figure(0, 0); break;
                case 2: x.tune(0); break;
                case 3: Due.tell(x, "........"); break;
                case 4: x.hush(); break;
                case 5: x.angel(x.at(0)); break;
                case 6: x.figure(0, 8); break;
                case 7: x.tune(1); break;
                default: Due.tell(x, "x"); break;
            }
            due.is("18: cleared or, if refused, not: " + how, x.count(7), how < 5 ? 0 : 3);
            due.is("18: undo likewise: " + how, x.undo(), how < 5 ? PinAngels.NONE : 2);
        }
        PinAngels y = new PinAngels();
        y.drift(1);
        due.is("18: a hush where there was no tune", y.hush(), 0);
        due.is("18: leaves nothing to be undone, too", y.undo(), PinAngels.NONE);
        due.is("18: the beat stays", y.count(3), 1);
    }

    private static void p19() {
        PinAngels x = new PinAngels();
        due.is("19: 1 at first", x.seed(0), 1);
        due.is("19: 0", x.seed(HIGH), 0);
        due.is("19: below 0", x.seed(-1), PinAngels.BAD);
        due.is("19: far below 0", x.seed(LOW), PinAngels.BAD);
        due.is("19: the greatest", x.seed(3), HIGH);
        due.is("19: nothing to be undone by it", x.count(7), 0);
    }

    private static void p20() {
        PinAngels x = Due.told("*..*....;r3,m2:001");
        due.is("20: 0", x.ahead(0, 0), 0);
        due.is("20: 1", x.ahead(0, 1), 3);
        due.is("20: 2", x.ahead(0, 2), 6);
        due.is("20: 3", x.ahead(0, 3), 4);
        x.beats(2);
        due.is("20: from this beat on", x.ahead(0, 1), 4);
        due.is("20: nothing is changed", x.at(0), 6);
        // A round from here leads p to 2 - p, then 6 on: to 8 - p; two rounds lead back.
        due.is("20: very many: 333333333 rounds twice and 2 beats", x.ahead(0, 2000000000), 7);
        due.is("20: too many", x.ahead(0, 2000000001), PinAngels.BAD);
        due.is("20: below", x.ahead(0, -1), PinAngels.BAD);
        due.is("20: none such", x.ahead(2, 0), PinAngels.BAD);
        due.is("20: none below", x.ahead(-1, 0), PinAngels.BAD);
        x.leave(1);
        due.is("20: GONE", x.ahead(1, 5), PinAngels.NONE);
        due.is("20: GONE, BAD first", x.ahead(1, -1), PinAngels.BAD);
        x.hush();
        due.is("20: no tune", x.ahead(0, 1999999999), 6);
    }

    private static void p21() {
        PinAngels x = Due.told("*.*.....;r1:0");
        due.is("21: who, now", x.then(2, 0, 0), 1);
        due.is("21: who, then", x.then(2, 2, 0), 0);
        due.is("21: nobody", x.then(2, 1, 0), PinAngels.NONE);
        due.is("21: seen, now", x.then(1, 0, 1), 2);
        due.is("21: seen, then, at 3 and 5", x.then(0, 3, 1), 2);
        due.is("21: seen, then, at 4 and 6", x.then(0, 4, 1), 1);
        due.is("21: very many", x.then(2, 2000000000, 0), 1);
        due.is("21: too many", x.then(2, 2000000001, 0), PinAngels.BAD);
        due.is("21: below", x.then(2, -1, 1), PinAngels.BAD);
        due.is("21: place above", x.then(8, 0, 0), PinAngels.BAD);
        due.is("21: place below", x.then(-1, 0, 1), PinAngels.BAD);
        due.is("21: what above", x.then(0, 0, 2), PinAngels.BAD);
        due.is("21: what below", x.then(0, 0, -1), PinAngels.BAD);
        x.leave(1);
        due.is("21: not one who is GONE", x.then(2, 0, 0), PinAngels.NONE);
    }

    private static void p22() {
        // h1 leads 0, 2, 4, 6 round in four and keeps 1, 3, 5, 7.
        PinAngels x = Due.told("**......;h1,r0:011");
        due.is("22: one in a ring of four", x.back(0), 12);
        due.is("22: one who stays", x.back(1), 3);
        due.is("22: all", x.back(-1), 12);
        x.leave(0);
        due.is("22: GONE", x.back(0), 3);
        due.is("22: all that are there", x.back(-1), 3);
        x.leave(1);
        due.is("22: all are GONE", x.back(-1), 3);
        due.is("22: none such", x.back(2), PinAngels.BAD);
        due.is("22: below -1", x.back(-2), PinAngels.BAD);
        x.hush();
        due.is("22: no tune", x.back(-1), 0);
        due.is("22: no tune, GONE", x.back(0), 0);
        due.is("22: nobody at all", Due.told("........;r1:00").back(-1), 2);
        due.is("22: no tune, one", Due.told("*.......;r1").back(0), 0);
        // m0, c1 and h1 by turns: rounds of unlike lengths make the time for all their least common multiple.
        PinAngels y = Due.told("********;c1,h1:01");
        int all = y.back(-1);
        for (int a = 0; a < 8; a++) {
            due.is("22: a multiple of each one's", all % y.back(a), 0);
        }
        for (int n = 1; n <= all; n++) {
            boolean back = n % 2 == 0;
            for (int a = 0; a < 8; a++) {
                back = back && y.ahead(a, n) == a;
            }
            due.is("22: behind " + n, back ? 1 : 0, n == all ? 1 : 0);
        }
    }

    private static void p23() {
        PinAngels x = Due.told("**......;r2,r1:001");
        due.is("23: 0, 2, 4, 5, 7, 1, 2, ..", x.been(0), 255);
        PinAngels y = Due.told("**......;h1:0");
        due.is("23: the even ones", y.been(0), 0x55);
        due.is("23: one stays", y.been(1), 2);
        y.leave(0);
        due.is("23: GONE", y.been(0), 0);
        due.is("23: none such", y.been(2), PinAngels.BAD);
        due.is("23: below", y.been(-1), PinAngels.BAD);
        PinAngels z = Due.told("*.......;r3,r5:01");
        due.is("23: there and back", z.been(0), 1 | 1 << 3);
        z.beats(1);
        due.is("23: from this beat on", z.been(0), 1 | 1 << 3);
        z.hush();
        due.is("23: no tune", z.been(0), 1 << 3);
        // The places come to within a round count, not only those at its end.
        due.is("23: within a round", Due.told("*.......;r1,r7:0000011111").been(0), 0b111111);
    }

    private static void p24() {
        PinAngels x = Due.told("*.......;r3,r1,e2");
        due.is("24: they do", x.shortest(1, -1), 0);
        due.is("24: no figure of none", x.shortest(1, 0), PinAngels.NONE);
        due.is("24: place 4: e2 alone", x.shortest(1 << 4, -1), 1);
        due.is("24: e2", x.shortest(1 << 4, 0), 2);
        due.is("24: not so many", x.shortest(1 << 4, 1), PinAngels.NONE);
        // Place 5 by two: 1 and 4, 4 and 1; the first is r1, e2.
        due.is("24: place 5", x.shortest(1 << 5, -1), 2);
        due.is("24: first", x.shortest(1 << 5, 0), 1);
        due.is("24: second", x.shortest(1 << 5, 1), 2);
        // Place 7 by two: r3, e2 stands ahead of e2, r3.
        due.is("24: place 7", x.shortest(1 << 7, 0), 0);
        due.is("24: place 7, then", x.shortest(1 << 7, 1), 2);
        due.is("24: two places for one", x.shortest(3, -1), PinAngels.NONE);
        due.is("24: two places for one, k", x.shortest(3, 0), PinAngels.NONE);
        due.is("24: none for one", x.shortest(0, -1), PinAngels.NONE);
        due.is("24: set below", x.shortest(-1, 0), PinAngels.BAD);
        due.is("24: set above", x.shortest(256, 0), PinAngels.BAD);
        due.is("24: k below", x.shortest(1, -2), PinAngels.BAD);
        due.is("24: k far above", x.shortest(1 << 5, HIGH), PinAngels.NONE);
        PinAngels y = Due.told("*.*.....;m2");
        due.is("24: whoever where", y.shortest(0b101, -1), 0);
        y.leave(0);
        due.is("24: who is GONE stands nowhere", y.shortest(1, -1), 1);
        due.is("24: the tune is of no matter", Due.told("*.......;r1,r2:0").shortest(1 << 2, 0), 1);
        y.leave(1);
        due.is("24: nobody", y.shortest(0, -1), 0);
        PinAngels z = Due.told("*.......;r1");
        due.is("24: the longest by r1", z.shortest(1 << 7, -1), 7);
        due.is("24: its last", z.shortest(1 << 7, 6), 0);
        due.is("24: behind its last", z.shortest(1 << 7, 7), PinAngels.NONE);
    }

    private static void p25() {
        due.is("25: one by r1", Due.told("*.......;r1").sorts(), 8);
        due.is("25: one by r2", Due.told("*.......;r2").sorts(), 4);
        due.is("25: two across", Due.told("*...*...;r1").sorts(), 4);
        due.is("25: no figures", Due.told("*...*...").sorts(), 1);
        due.is("25: all", Due.told("********;r1,c3").sorts(), 1);
        PinAngels x = Due.told("**......;h1");
        due.is("25: one of two stays", x.sorts(), 4);
        x.leave(0);
        due.is("25: the other is GONE", x.sorts(), 1);
    }

    private static void p26() {
        // Rounds keep the two as far apart as they are; h1 leads the even one on.
        PinAngels x = Due.told("**......;h1");
        due.is("26: 0 goes to 2, 4, 6: how far", x.apart(0, 1, 1), 3);
        due.is("26: how many", x.apart(0, 1, 0), 2);
        due.is("26: the other way", x.apart(1, 0, 0), 2);
        PinAngels y = Due.told("*.*.....;r1");
        due.is("26: always alike", y.apart(0, 1, 1), 2);
        due.is("26: so none is needed", y.apart(0, 1, 0), 0);
        due.is("26: no figures", Due.told("*......*").apart(0, 1, 1), 1);
        due.is("26: alike numbers", y.apart(1, 1, 0), PinAngels.BAD);
        due.is("26: none such", y.apart(0, 2, 0), PinAngels.BAD);
        due.is("26: none such, first", y.apart(2, 0, 0), PinAngels.BAD);
        due.is("26: below", y.apart(-1, 0, 0), PinAngels.BAD);
        due.is("26: what above", y.apart(0, 1, 2), PinAngels.BAD);
        due.is("26: what below", y.apart(0, 1, -1), PinAngels.BAD);
        y.leave(1);
        due.is("26: one is GONE", y.apart(0, 1, 0), PinAngels.NOT);
        due.is("26: one is GONE, first", y.apart(1, 0, 1), PinAngels.NOT);
        due.is("26: BAD ahead of NOT", y.apart(0, 1, 2), PinAngels.BAD);
        // c0 leads 0 to 4, 1 to 7: 1 apart become 3 apart; c0 again undoes it.
        due.is("26: c0", Due.told("**......;c0").apart(0, 1, 1), 3);
        due.is("26: c0, once", Due.told("**......;c0").apart(0, 1, 0), 1);
    }

    private static void p27() {
        PinAngels x = Due.told("*.......;r1,r7");
        due.is("27: 0 beats, there", x.chance(0, 0, 0, 0), 1);
        due.is("27: 0 beats, of", x.chance(0, 0, 0, 1), 1);
        due.is("27: 0 beats, not there", x.chance(0, 1, 0, 0), 0);
        due.is("27: of", x.chance(0, 1, 0, 1), 1);
        due.is("27: 2 of 4", x.chance(0, 0, 2, 0), 1);
        due.is("27: in lowest terms", x.chance(0, 0, 2, 1), 2);
        due.is("27: 6 of 16 and none round", x.chance(0, 0, 4, 0), 3);
        due.is("27: of 8", x.chance(0, 0, 4, 1), 8);
        due.is("27: 70 of 256 and 2 round", x.chance(0, 0, 8, 0), 9);
        due.is("27: of 32", x.chance(0, 0, 8, 1), 32);
        due.is("27: never", x.chance(0, 1, 8, 0), 0);
        due.is("27: never, of", x.chance(0, 1, 8, 1), 1);
        due.is("27: n above", x.chance(0, 0, 9, 0), PinAngels.BAD);
        due.is("27: n below", x.chance(0, 0, -1, 0), PinAngels.BAD);
        due.is("27: place above", x.chance(0, 8, 0, 0), PinAngels.BAD);
        due.is("27: place below", x.chance(0, -1, 0, 0), PinAngels.BAD);
        due.is("27: what", x.chance(0, 0, 0, 2), PinAngels.BAD);
        due.is("27: what below", x.chance(0, 0, 0, -1), PinAngels.BAD);
        due.is("27: none such", x.chance(1, 0, 0, 0), PinAngels.BAD);
        x.leave(0);
        due.is("27: GONE", x.chance(0, 0, 1, 0), PinAngels.NOT);
        due.is("27: no figures", Due.told("*.......").chance(0, 0, 0, 0), PinAngels.NOT);
        due.is("27: like figures count each", Due.told("*.......;r1,r1,r0").chance(0, 1, 1, 0), 2);
        due.is("27: 5 to the 8th", Due.told("*.......;r0,r0,r0,r0,r1").chance(0, 7, 8, 1), 390625);
        due.is("27: 8 of them by 7 of r1", Due.told("*.......;r0,r0,r0,r0,r1").chance(0, 7, 8, 0), 32);
    }

    private static void p28And29() {
        PinAngels x = Due.told("*.*.....;r1,m2:01");
        due.is("29: none", x.restore(), PinAngels.NONE);
        x.seed(12);
        x.beats(3);
        x.leave(1);
        int places = x.count(4);
        due.is("28: kept", x.image(), 1);
        x.come(1, 7);
        x.figure(4, 4);
        x.tune(2);
        x.angel(5);
        x.seed(13);
        x.beats(9);
        x.sheet(0, 1, 5);
        x.type('*');
        x.type('*');
        due.is("29: as it was", x.restore(), 1);
        int[] counts = {2, 2, 2, 3, places, 0b10, 1, 4};
        for (int what = 0; what < 8; what++) {
            due.is("29: count(" + what + ")", x.count(what), counts[what]);
        }
        due.is("29: not the sheets", x.drop(0), 5);
        due.is("29: not the tape", x.type('*'), 3);
        due.is("29: what may be undone", x.undo(), 3);
        due.is("29: as ahead of it", x.at(1) >= 0 ? 1 : 0, 1);
        due.is("29: the draw", x.seed(0), 12);
        due.is("29: once more", x.restore(), 1);
        due.is("29: the image is as it was", x.count(7), 4);
        due.is("29: GONE again", x.at(1), PinAngels.NONE);
        Due.tell(x, "..........");
        Due.tell(x, "*****...");
        due.is("29: behind another ring", x.restore(), 1);
        due.is("29: its angels", x.count(0), 2);
        x.beats(1);
        x.image();
        x.beats(1);
        x.restore();
        due.is("28: a later image takes its place", x.count(3), 4);
        PinAngels y = new PinAngels();
        y.image();
        y.angel(0);
        due.is("29: an image of nobody", y.restore(), 1);
        due.is("29: nobody", y.count(0), 0);
    }

    private static void p30() {
        PinAngels x = new PinAngels();
        due.is("30: NULL", x.counts(0, 0, 0, 0, 1, 0), PinAngels.NULL);
        Due.lay(x, 0, 0, 0, 0, 0, 5, 5);
        // None within 3 of place 0: place 4 may have one.
        due.is("30: 0 from place 0", x.counts(0, 0, 0, 0, 1, 0), 2);
        due.is("30: least", x.counts(0, 0, 0, 0, 1, 1), 0);
        due.is("30: greatest", x.counts(0, 0, 0, 0, 1, 2), 1);
        due.is("30: 0 from places 7 and 0", x.counts(7, 0, 0, 1, 2, 0), 1);
        due.is("30: 5 from place 3 and from 4: none", x.counts(3, 0, 0, 3, 2, 0), 0);
        due.is("30: none: least", x.counts(3, 0, 0, 3, 2, 1), PinAngels.NONE);
        due.is("30: none: greatest", x.counts(3, 0, 0, 3, 2, 2), PinAngels.NONE);
        due.is("30: CAST", x.counts(0, 0, 1, 0, 1, 0), PinAngels.CAST);
        due.is("30: CAST ahead of INDEX", x.counts(0, 0, 1, 9, 1, 0), PinAngels.CAST);
        due.is("30: NULL ahead of CAST", x.counts(0, 1, 3, -1, 1, 0), PinAngels.NULL);
        due.is("30: INDEX", x.counts(0, 0, 0, 4, 2, 0), PinAngels.INDEX);
        due.is("30: INDEX below", x.counts(0, 0, 0, -1, 1, 0), PinAngels.INDEX);
        due.is("30: INDEX far", x.counts(0, 0, 0, HIGH, 8, 0), PinAngels.INDEX);
        due.is("30: INDEX far below", x.counts(0, 0, 0, LOW, 8, 0), PinAngels.INDEX);
        due.is("30: the last", x.counts(0, 0, 0, 4, 1, 0), 2);
        due.is("30: place", x.counts(8, 1, 0, 0, 1, 0), PinAngels.BAD);
        due.is("30: place below", x.counts(-1, 1, 0, 0, 1, 0), PinAngels.BAD);
        due.is("30: sheet", x.counts(0, 4, 0, 0, 1, 0), PinAngels.BAD);
        due.is("30: sheet below", x.counts(0, -1, 0, 0, 1, 0), PinAngels.BAD);
        due.is("30: lane", x.counts(0, 0, 4, 0, 1, 0), PinAngels.BAD);
        due.is("30: lane below", x.counts(0, 0, -1, 0, 1, 0), PinAngels.BAD);
        due.is("30: n", x.counts(0, 0, 0, 0, 0, 0), PinAngels.BAD);
        due.is("30: n above", x.counts(0, 0, 0, 0, 9, 0), PinAngels.BAD);
        due.is("30: what", x.counts(0, 0, 0, 0, 1, 3), PinAngels.BAD);
        due.is("30: what below", x.counts(0, 0, 0, 0, 1, -1), PinAngels.BAD);
        Due.lay(x, 1, 3, 3, 3, 3, 3, 3, 3, 3, 3, 1L << 32);
        // 3 from everywhere: all stand, and whatever else; whoever is on the pin now is of no matter.
        int sets = x.counts(0, 1, 3, 0, 8, 0);
        due.holds("30: all standing is one of them", sets >= 1 && x.counts(0, 1, 3, 0, 8, 2) == 8);
        x.angel(0);
        due.is("30: who is there is of no matter", x.counts(5, 1, 3, 0, 8, 0), sets);
        due.is("30: a long that is no int", x.counts(0, 1, 3, 8, 1, 0), 0);
    }

    private static void p31() {
        PinAngels x = Due.told("*.*.....;r2,m1,e1:0");
        due.is("31: NULL", x.steps(0, 0, 0, 1, 0, 1, 0), PinAngels.NULL);
        Due.lay(x, 0, 1, 2, 4, 6, 0, 3);
        // c2 leads 0 to 2 to 4 (by the mirror to 0) to 6 to 0 (by the mirror to 4), as r2 does; m2 leads 2 to 0.
        due.is("31: kinds by 2, 4: r2, c2", x.steps(0, 0, 0, 1, 0, 2, 0), 0b10001);
        due.is("31: fars by 2, 4: r2 alone", x.steps(0, 0, 0, 1, 0, 2, 1), 1 << 2);
        // From 0: r2, m2, c2 lead to 2; e2 and h2 lead to 4.
        due.is("31: kinds by 2", x.steps(0, 0, 0, 1, 0, 1, 0), 0b10101);
        due.is("31: fars by 2", x.steps(0, 0, 0, 1, 0, 1, 1), 1 << 2);
        due.is("31: all five items but one", x.steps(0, 0, 0, 1, 0, 5, 0), 0);
        due.is("31: a figure that is not in the tune: any kind", x.steps(0, 1, 0, 1, 0, 4, 0), 0b11111);
        due.is("31: and any far", x.steps(0, 2, 0, 1, 0, 4, 1), 255);
        due.is("31: or none", x.steps(0, 2, 0, 1, 1, 2, 1), 0);
        due.is("31: nothing is changed", x.of(0, 0) * 8 + x.of(0, 1), 2);
        due.is("31: where it leads, too", x.leads(0, 0), 2);
        due.is("31: from item 1 on, the second angel", x.steps(1, 0, 0, 1, 1, 3, 0), 0b10001);
        due.is("31: CAST", x.steps(0, 0, 0, 2, 0, 1, 0), PinAngels.CAST);
        due.is("31: INDEX", x.steps(0, 0, 0, 1, 4, 2, 0), PinAngels.INDEX);
        due.is("31: INDEX below", x.steps(0, 0, 0, 1, -1, 2, 0), PinAngels.INDEX);
        due.is("31: angel", x.steps(2, 0, 0, 1, 0, 1, 0), PinAngels.BAD);
        due.is("31: figure", x.steps(0, 3, 0, 1, 0, 1, 0), PinAngels.BAD);
        due.is("31: figure below", x.steps(0, -1, 0, 1, 0, 1, 0), PinAngels.BAD);
        due.is("31: sheet", x.steps(0, 0, 4, 1, 0, 1, 0), PinAngels.BAD);
        due.is("31: lane", x.steps(0, 0, 0, 4, 0, 1, 0), PinAngels.BAD);
        due.is("31: n", x.steps(0, 0, 0, 1, 0, 0, 0), PinAngels.BAD);
        due.is("31: n above", x.steps(0, 0, 0, 1, 0, 9, 0), PinAngels.BAD);
        due.is("31: what", x.steps(0, 0, 0, 1, 0, 1, 2), PinAngels.BAD);
        due.is("31: what below", x.steps(0, 0, 0, 1, 0, 1, -1), PinAngels.BAD);
        x.leave(0);
        due.is("31: GONE", x.steps(0, 0, 0, 1, 0, 1, 0), PinAngels.NOT);
        due.is("31: INDEX ahead of NOT", x.steps(0, 0, 0, 1, 5, 1, 0), PinAngels.INDEX);
        due.is("31: CAST ahead of NOT", x.steps(0, 0, 0, 3, 0, 1, 0), PinAngels.CAST);
        due.is("31: NULL ahead of NOT", x.steps(0, 0, 2, 3, 0, 1, 0), PinAngels.NULL);
        x.hush();
        Due.lay(x, 1, 3, 2, 2, 2 + (1L << 32));
        due.is("31: no tune: it stays", x.steps(1, 0, 1, 3, 0, 2, 0), 0b11111);
        due.is("31: a long that is no int", x.steps(1, 0, 1, 3, 0, 3, 0), 0);
    }

    private static void p32() {
        PinAngels x = Due.told("*.*.....;r2,m1:0");
        due.is("32: NULL", x.film(0, 1, 0, 2, 0), PinAngels.NULL);
        Due.lay(x, 0, 2, 9, 9, 9, 9, 9);
        due.is("32: n", x.film(0, 3, 0, 2, 1), 3);
        due.is("32: 2, 4, 6 stand there", x.steps(0, 0, 0, 2, 1, 3, 1), 1 << 2);
        due.is("32: not ahead of them", x.steps(0, 0, 0, 2, 0, 1, 0), 0);
        due.is("32: not behind them", x.steps(0, 0, 0, 2, 1, 4, 0), 0);
        due.is("32: the angel stays", x.at(0), 0);
        due.is("32: CAST", x.film(0, 3, 0, 1, 1), PinAngels.CAST);
        due.is("32: INDEX", x.film(1, 3, 0, 2, 3), PinAngels.INDEX);
        due.is("32: nothing is changed by that", x.steps(0, 0, 0, 2, 1, 3, 1), 1 << 2);
        due.is("32: INDEX below", x.film(1, 3, 0, 2, -1), PinAngels.INDEX);
        due.is("32: n too small", x.film(0, 0, 0, 2, 0), PinAngels.BAD);
        due.is("32: n too great", x.film(0, 25, 0, 2, 0), PinAngels.BAD);
        due.is("32: angel", x.film(2, 1, 0, 2, 0), PinAngels.BAD);
        due.is("32: sheet", x.film(0, 1, 4, 2, 0), PinAngels.BAD);
        due.is("32: lane", x.film(0, 1, 0, 4, 0), PinAngels.BAD);
        x.sheet(1, 0, 24);
        due.is("32: the most", x.film(1, 24, 1, 0, 0), 24);
        due.is("32: the last is right", x.steps(1, 0, 1, 0, 16, 8, 1), 1 << 2);
        // One who is GONE is filmed as -4; a later one at place 4 is not that.
        x.leave(0);
        due.is("32: GONE", x.film(0, 2, 1, 0, 0), 2);
        due.is("32: not by any kind", x.steps(1, 0, 1, 0, 0, 1, 0), 0);
        x.come(0, 0);
        due.is("32: nor by any far", x.steps(0, 0, 1, 0, 0, 1, 1), 0);
    }

    private static void p33() {
        PinAngels x = new PinAngels();
        due.is("33: none", x.sheet(0, 0, 0), 0);
        due.is("33: the most", x.sheet(3, 3, 24), 24);
        due.is("33: too many", x.sheet(0, 0, 25), PinAngels.BAD);
        due.is("33: below 0", x.sheet(0, 0, -1), PinAngels.SIZE);
        due.is("33: far below 0", x.sheet(0, 0, LOW), PinAngels.SIZE);
        due.is("33: sheet", x.sheet(4, 0, 1), PinAngels.BAD);
        due.is("33: sheet below", x.sheet(-1, 0, 1), PinAngels.BAD);
        due.is("33: lane", x.sheet(0, 4, 1), PinAngels.BAD);
        due.is("33: lane below, BAD ahead of SIZE", x.sheet(0, -1, -1), PinAngels.BAD);
        due.is("33: what was there stays", x.drop(3), 24);
        x.sheet(1, 0, 1);
        x.item(1, 0, 0, 7);
        x.sheet(1, 0, 1);
        due.is("33: a new row has items of 0", x.counts(0, 1, 0, 0, 1, 0), 2);
        x.sheet(1, 2, 3);
        due.is("33: of another lane", x.item(1, 2, 2, 0), 1);
        due.is("33: not of the old one", x.item(1, 0, 0, 0), PinAngels.CAST);
    }

    private static void p34() {
        PinAngels x = new PinAngels();
        due.is("34: nothing", x.drop(0), PinAngels.NULL);
        x.sheet(0, 1, 7);
        due.is("34: how many", x.drop(0), 7);
        due.is("34: nothing then", x.drop(0), PinAngels.NULL);
        x.sheet(0, 1, 0);
        due.is("34: no items are something", x.drop(0), 0);
        due.is("34: above", x.drop(4), PinAngels.BAD);
        due.is("34: below", x.drop(-1), PinAngels.BAD);
    }

    private static void p35() {
        PinAngels x = Due.told("...*....;r0:0");
        due.is("35: NULL", x.item(0, 0, 0, 0), PinAngels.NULL);
        long[] odd = {1L << 8, 1L << 16, 1L << 32, 0};
        for (int lane = 0; lane < 4; lane++) {
            due.is("35: sheet", x.sheet(lane, lane, 2), 2);
            due.is("35: its lowest bits", x.item(lane, lane, 1, odd[lane] + 3), 1);
            due.is("35: are 3", x.steps(0, 0, lane, lane, 1, 1, 1), 1);
            due.is("35: the next lane", x.item(lane, (lane + 1) % 4, 0, 0), PinAngels.CAST);
            due.is("35: INDEX", x.item(lane, lane, 2, 0), PinAngels.INDEX);
            due.is("35: INDEX below", x.item(lane, lane, -1, 0), PinAngels.INDEX);
            if (lane > 0) {
                x.item(lane, lane, 1, odd[lane - 1] + 3);
                due.is("35: a bit that this lane has", x.steps(0, 0, lane, lane, 1, 1, 1), 0);
            }
        }
        x.item(0, 0, 0, 255);
        due.is("35: 255 as a byte is -1, seen by none", x.counts(0, 0, 0, 0, 1, 0), 0);
        due.is("35: sheet above", x.item(4, 0, 0, 0), PinAngels.BAD);
        due.is("35: sheet below", x.item(-1, 0, 0, 0), PinAngels.BAD);
        due.is("35: lane above", x.item(0, 4, 0, 0), PinAngels.BAD);
        due.is("35: lane below", x.item(0, -1, 0, 0), PinAngels.BAD);
        x.sheet(0, 0, 0);
        due.is("35: no items", x.item(0, 0, 0, 0), PinAngels.INDEX);
    }

    /** The sheet's items, each of which must be 0 .. 7, read by how a staying angel would have to be led by rounds. */
    private static String read(PinAngels x, int sheet, int lane, int n) {
        StringBuilder b = new StringBuilder();
        for (int i = 0; i < n; i++) {
            int far = x.steps(0, 0, sheet, lane, i, 1, 1);
            b.append(Integer.numberOfTrailingZeros(far));
        }
        return b.toString();
    }

    private static void p36() {
        PinAngels x = Due.told("*.......;r0:0");
        due.is("36: NULL", x.copy(0, 0, 1, 0, 0), PinAngels.NULL);
        Due.lay(x, 0, 2, 1, 2, 3, 4, 5);
        due.is("36: NULL, to", x.copy(0, 0, 1, 0, 0), PinAngels.NULL);
        due.is("36: NULL, from", x.copy(1, 0, 0, 0, 0), PinAngels.NULL);
        Due.lay(x, 1, 2, 0, 0, 0);
        due.is("36: n", x.copy(0, 2, 1, 1, 2), 2);
        due.holds("36: came", read(x, 1, 2, 3).equals("034"));
        due.holds("36: stayed", read(x, 0, 2, 5).equals("12345"));
        due.is("36: onwards in the same", x.copy(0, 0, 0, 1, 4), 4);
        due.holds("36: as if taken ahead", read(x, 0, 2, 5).equals("11234"));
        due.is("36: backwards in the same", x.copy(0, 2, 0, 0, 3), 3);
        due.holds("36: as if taken ahead, too", read(x, 0, 2, 5).equals("23434"));
        due.is("36: none", x.copy(0, 5, 1, 3, 0), 0);
        due.is("36: none, beyond", x.copy(0, 6, 1, 3, 0), PinAngels.INDEX);
        due.is("36: none, beyond, to", x.copy(0, 5, 1, 4, 0), PinAngels.INDEX);
        due.is("36: too many from", x.copy(1, 0, 0, 0, 4), PinAngels.INDEX);
        due.is("36: too many to", x.copy(0, 0, 1, 0, 4), PinAngels.INDEX);
        due.is("36: from below", x.copy(0, -1, 1, 0, 1), PinAngels.INDEX);
        due.is("36: to below", x.copy(0, 0, 1, -1, 1), PinAngels.INDEX);
        due.is("36: n below", x.copy(0, 1, 1, 1, -1), PinAngels.INDEX);
        due.is("36: far", x.copy(0, HIGH, 1, 1, HIGH), PinAngels.INDEX);
        due.is("36: far below", x.copy(0, LOW, 1, 1, LOW), PinAngels.INDEX);
        due.holds("36: nothing came by these", read(x, 1, 2, 3).equals("034"));
        x.sheet(2, 3, 5);
        due.is("36: CAST", x.copy(0, 0, 2, 0, 1), PinAngels.CAST);
        due.is("36: CAST ahead of INDEX", x.copy(0, -1, 2, 0, 1), PinAngels.CAST);
        due.is("36: from above", x.copy(4, 0, 0, 0, 0), PinAngels.BAD);
        due.is("36: to above", x.copy(0, 0, 4, 0, 0), PinAngels.BAD);
        due.is("36: from below", x.copy(-1, 0, 3, 0, 0), PinAngels.BAD);
        due.is("36: to below, BAD ahead of NULL", x.copy(3, 0, -1, 0, 0), PinAngels.BAD);
    }

    private static void refusedChangesNothing() {
        PinAngels x = Due.told("*.*.....;r1,m2:01");
        x.beats(2);
        int places = x.count(4);
        int[] refused = {x.angel(8), x.figure(5, 0), x.tune(2), x.beats(41), x.draught(8), x.leave(2), x.come(0, 3), x.drift(41),
            x.seed(-1), x.ahead(0, -1), x.then(8, 0, 0), x.sheet(0, 0, 25)};
        for (int answer : refused) {
            due.holds("refused", answer < 0);
        }
        int[] counts = {2, 2, 2, 2, places, 0, 0, 2};
        for (int what = 0; what < 8; what++) {
            due.is("refused calls leave count(" + what + ")", x.count(what), counts[what]);
        }
        due.is("refused calls leave the draw", x.seed(0), 1);
    }
}
