/**
 * Reads all that can be known of an object, as a text. Reading uses the object up: to see that a call changes nothing,
 * one object is read behind the call, and another, made alike, without it.
 */
final class Probe {
    private static final int MOST_DONE = 9;
    private static final int MOST_TUNE = 16;

    private final PinAngels x;
    private final StringBuilder text = new StringBuilder();

    private Probe(PinAngels x) {
        this.x = x;
    }

    /** Takes up to some 380 calls, so an object that is read has had at most 130 ahead of it. */
    static String of(PinAngels x) {
        Probe probe = new Probe(x);
        probe.now();
        probe.done();
        probe.tune();
        probe.tape();
        probe.sheets();
        probe.image();
        return probe.text.toString();
    }

    private void now() {
        text.append("counts");
        for (int what = 0; what < 8; what++) {
            text.append(' ').append(x.count(what));
        }
        places();
        text.append(" figures");
        for (int f = 0; f < 5 && x.of(f, 0) >= 0; f++) {
            text.append(' ').append(x.of(f, 0)).append('/').append(x.of(f, 1));
        }
        draw();
    }

    private void places() {
        text.append(" at");
        int answer = 0;
        for (int a = 0; a < 8 && answer != PinAngels.BAD; a++) {
            answer = x.at(a);
            text.append(' ').append(answer);
        }
    }

    private void draw() {
        int draw = x.seed(0);
        x.seed(draw);
        text.append(" draw ").append(draw);
    }

    private void done() {
        int left = 0;
        for (int t = 0; t < MOST_DONE && left >= 0; t++) {
            left = x.undo();
            text.append("; undo ").append(left).append(" beat ").append(x.count(3));
            places();
            draw();
        }
    }

    private void tune() {
        text.append("; tune");
        for (int t = 0; t < MOST_TUNE; t++) {
            text.append(' ').append(x.count(6));
            x.beats(1);
        }
    }

    /** Whatever stands on the tape, if it is the beginning of a ring, or can't be one, shows in what this answers. */
    private void tape() {
        text.append("; tape of ").append(x.type('*'));
        Due.type(x, "....");
        text.append(" is ").append(x.ring()).append(" with ").append(x.count(4));
    }

    private void sheets() {
        Due.tell(x, "*.......;r0:0");
        for (int s = 0; s < 4; s++) {
            int lane = 0;
            while (lane < 3 && x.steps(0, 0, s, lane, 0, 1, 1) == PinAngels.CAST) {
                lane++;
            }
            text.append("; sheet ").append(s).append(" of ").append(lane);
            items(s, lane);
            text.append(" drop ").append(x.drop(s));
        }
    }

    /** An angel at place 0 is led by a round that is as far as the item, if this is a place; else by none: 0. */
    private void items(int sheet, int lane) {
        int fars = 0;
        for (int i = 0; i < 24 && fars >= 0; i++) {
            fars = x.steps(0, 0, sheet, lane, i, 1, 1);
            text.append(' ').append(fars);
        }
    }

    private void image() {
        text.append("; restore ").append(x.restore()).append(' ');
        now();
        done();
        tune();
    }
}
