/** Objects that several tests begin with, each made by at most some 130 calls. */
final class Made {
    private Made() {
    }

    /**
     * Something of everything. Angel 0 is at 4, angel 1 GONE, angel 2 at 7; the tune is at its figure 2, c3, in BEAT 2;
     * two BEATS, a DRAUGHT, a LEFT may be undone; THE DRAW is 77; there is an IMAGE of another ring; sheet 0 has 5 bytes,
     * sheet 1 no shorts, sheet 2 8 ints, sheet 3 is missing; three letters are typed.
     */
    static PinAngels rich() {
        PinAngels x = new PinAngels();
        Due.tell(x, "**......;r2,m1:01");
        x.seed(5);
        x.beats(2);
        x.leave(1);
        x.image();
        Due.tell(x, "*.*..*..;r1,m2,c3,h1,e3:0123");
        x.seed(77);
        x.beats(2);
        x.draught(3);
        x.leave(1);
        Due.lay(x, 0, 0, 1, 2, 3, 4, 5);
        x.sheet(1, 1, 0);
        Due.lay(x, 2, 2, 0, 1, 2, 3, 4, 5, 6, 7);
        Due.type(x, "*.*");
        return x;
    }

    /** Angels at 0, 2 and 5, r1 and r0, a tune of r1; on sheet s a row of lane s: 24 items of 0. */
    static PinAngels rows() {
        PinAngels x = Due.told("*.*..*..;r1,r0:0");
        for (int s = 0; s < 4; s++) {
            x.sheet(s, s, 24);
        }
        return x;
    }

    /** All there may be: 8 angels, 5 figures, 16 numbers of the tune, 60 letters, 8 that may be undone. */
    static PinAngels full() {
        PinAngels x = Due.told("********;r1,e1,m1,h1,c1:0123401234012340");
        x.beats(9);
        for (int t = 0; t < 60; t++) {
            x.type('.');
        }
        return x;
    }

    /** BEAT 9990, by 250 calls: too many behind them to be read as a whole. */
    static PinAngels late(String ring) {
        PinAngels x = Due.told(ring);
        for (int t = 0; t < 249; t++) {
            x.beats(40);
        }
        x.beats(30);
        return x;
    }
}
