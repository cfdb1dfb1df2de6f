/** Promises 10 and 11: "A RING is a TEXT", and where a letter can't stand in it, letter by letter. */
public final class TapeTest {
    private static final String DIGITS = "01234567";

    private static final Due due = new Due();

    public static void main(String[] args) {
        eightSigns();
        figuresOneToFive();
        farsNoughtToSeven();
        tunesOneToSixteen();
        tunesOfTheirFigures();
        everyLetterEverywhere();
        endsEverywhere();
        blanksCountForNothing();
        blanksAloneAndNone();
        sixtyLetters();
        inPlaceOfAll();
        nothingOfWhatWasTried();
        due.end("TapeTest");
    }

    private static void faults(String text, int place) {
        PinAngels x = new PinAngels();
        due.is("'" + text + "'", Due.tell(x, text), -20 - place);
        due.is("'" + text + "' leaves an empty tape", x.type('.'), 1);
    }

    private static PinAngels stands(String text, int angels) {
        PinAngels x = new PinAngels();
        due.is("'" + text + "'", Due.tell(x, text), angels);
        due.is("'" + text + "' leaves an empty tape", x.type('.'), 1);
        return x;
    }

    /** "8 signs (PLACES): . or * (an ANGEL, numbered as they come)". */
    private static void eightSigns() {
        for (int set = 0; set < 256; set++) {
            StringBuilder b = new StringBuilder();
            for (int p = 0; p < 8; p++) {
                b.append((set >> p & 1) != 0 ? '*' : '.');
            }
            PinAngels x = stands(b.toString(), Integer.bitCount(set));
            due.is("its places", x.count(4), set);
            int angel = 0;
            for (int p = 0; p < 8; p++) {
                if ((set >> p & 1) != 0) {
                    due.is("as they come", x.at(angel), p);
                    angel++;
                }
            }
            due.is("no more angels", x.at(angel), PinAngels.BAD);
            faults(b + ".", 8);
            faults(b + "*", 8);
            faults(b.substring(0, 7), 7);
        }
    }

    /** "then perhaps ; and 1 to 5 FIGURES with , between". */
    private static void figuresOneToFive() {
        faults("........;", 9);
        String text = "........;";
        for (int f = 1; f <= 5; f++) {
            text += (f > 1 ? "," : "") + "remhc".charAt(f - 1) + (f + 2);
            PinAngels x = stands(text, 0);
            due.is("so many", x.count(1), f);
            due.is("kind", x.of(f - 1, 0), f - 1);
            due.is("far", x.of(f - 1, 1), f + 2);
            due.is("no tune", x.count(2), 0);
            faults(text + ",", f < 5 ? text.length() + 1 : text.length());
            faults(text + ";", text.length());
        }
        faults(text + ",r0", text.length());
    }

    /** "r e m h c .. and a digit 0 .. 7 (FAR)". */
    private static void farsNoughtToSeven() {
        for (int kind = 0; kind < 5; kind++) {
            for (int far = 0; far <= 9; far++) {
                String text = "*.......;" + "remhc".charAt(kind) + far;
                if (far < 8) {
                    PinAngels x = stands(text, 1);
                    due.is("kind", x.of(0, 0), kind);
                    due.is("far", x.of(0, 1), far);
                } else {
                    faults(text, 10);
                }
            }
        }
        faults("*.......;r00", 11);
        faults("*.......;rr0", 10);
        faults("*.......;0r", 9);
    }

    /** "then, if there are FIGURES, perhaps : and 1 to 16 digits of these (THE TUNE; else it has none)". */
    private static void tunesOneToSixteen() {
        faults("*.......:0", 8);
        faults("*.......;:0", 9);
        faults("*.......;r1:", 12);
        String text = "*.......;r1,r2:";
        for (int t = 1; t <= 16; t++) {
            text += t % 2;
            PinAngels x = stands(text, 1);
            due.is("how long", x.count(2), t);
            for (int b = 1; b <= t; b++) {
                due.is("the figure of BEAT " + b, x.count(6), b % 2);
                x.beats(1);
            }
            due.is("it begins again", x.count(6), 1);
            faults(text + ",", text.length());
            faults(text + ":", text.length());
        }
        faults(text + "0", text.length());
    }

    /** Digits "of these": of the FIGURES that there are. */
    private static void tunesOfTheirFigures() {
        String text = "*.......;";
        for (int f = 1; f <= 5; f++) {
            text += (f > 1 ? "," : "") + "r" + f;
            for (int d = 0; d <= 9; d++) {
                if (d < f) {
                    due.is("the figure", stands(text + ":" + d, 1).count(6), d);
                    stands(text + ":0" + d, 1);
                } else {
                    faults(text + ":" + d, text.length() + 1);
                    faults(text + ":0" + d, text.length() + 2);
                }
            }
        }
    }

    /** Which letters can stand behind the first so many of a text, told by hand for each place in it. */
    private static String canStand(String before) {
        int n = before.length();
        if (n < 8) {
            return ".*";
        }
        if (n == 8) {
            return ";";
        }
        int colon = before.indexOf(':');
        int figures = before.replaceAll("[^remhc]", "").length();
        if (colon >= 0) {
            return n - colon > 16 ? "" : DIGITS.substring(0, figures);
        }
        char last = before.charAt(n - 1);
        if (last == ';' || last == ',') {
            return "remhc";
        }
        if ("remhc".indexOf(last) >= 0) {
            return DIGITS;
        }
        return figures < 5 ? ",:" : ":";
    }

    /** "the place of the first letter .. that can't stand there": every letter but a blank at every place. */
    private static void everyLetterEverywhere() {
        String[] rings = {"*.*.*.*.;r0,e1,m2,h3,c7:0123401234012340", "........;c0:0000000000000000", "********;h5,m6:10"};
        for (String ring : rings) {
            for (int n = 0; n <= ring.length(); n++) {
                String before = ring.substring(0, n);
                String can = canStand(before);
                for (int letter = 33; letter <= 126; letter++) {
                    PinAngels x = new PinAngels();
                    int answer = Due.tell(x, before + (char) letter + '~');
                    int place = can.indexOf(letter) >= 0 ? n + 1 : n;
                    due.is("'" + before + (char) letter + "~'", answer, -20 - place);
                }
            }
        }
    }

    /** "(the end: how many there are)": a text that stops where more must come. */
    private static void endsEverywhere() {
        String ring = "*.*.*.*.;r0,e1,m2,h3,c7:0123401234012340";
        for (int n = 0; n <= ring.length(); n++) {
            String text = ring.substring(0, n);
            boolean whole = n > 24 || n >= 8 && n < 24 && (n - 8) % 3 == 0;
            int want = whole ? 4 : -20 - n;
            due.is("'" + text + "'", Due.tell(new PinAngels(), text), want);
        }
    }

    /** "(behind blanks)", "blanks count for nothing": but a place is counted on the tape as typed. */
    private static void blanksCountForNothing() {
        String ring = "*.*.*...;r1,m2:011";
        for (int n = 0; n <= ring.length(); n++) {
            for (int blanks = 1; blanks <= 3; blanks++) {
                String gap = "   ".substring(0, blanks);
                PinAngels x = stands(ring.substring(0, n) + gap + ring.substring(n), 3);
                due.is("figures", x.count(1), 2);
                due.is("tune", x.count(2), 3);
                faults(ring.substring(0, n) + gap + "~", n + blanks);
                faults("  " + ring.substring(0, n) + gap + "~" + ring.substring(n), 2 + n + blanks);
            }
        }
        stands("* . * . * . . . ; r 1 , m 2 : 0 1 1", 3);
        stands(" *.*.*...;r1,m2:011 ", 3);
        faults(". . . ", 6);
        faults("........ ; ", 11);
        faults("........;r ", 11);
        faults("........;r1: ", 13);
        faults("........;r1 ,  ", 15);
    }

    private static void blanksAloneAndNone() {
        faults("", 0);
        StringBuilder blanks = new StringBuilder();
        for (int n = 1; n <= 60; n++) {
            faults(blanks.append(' ').toString(), n);
        }
    }

    /** 10: "how many it has"; "FULL: 60". The last letter counts, the next does not. */
    private static void sixtyLetters() {
        String ring = "********;r0,e1,m2,h3,c7:0123401234012340";
        String pad = "                    ";
        stands(ring + pad, 8);
        stands(pad + ring, 8);
        faults(pad.substring(1) + ring + "0", 59);
        PinAngels x = new PinAngels();
        for (int n = 1; n <= 60; n++) {
            due.is("letter " + n, x.type(n == 60 ? '*' : n <= 52 ? ' ' : '.'), n);
        }
        due.is("one too many", x.type('x'), PinAngels.FULL);
        due.is("and once more", x.type('x'), PinAngels.FULL);
        due.is("the sixtieth is the eighth sign", x.ring(), 1);
        due.is("there", x.at(0), 7);
        due.is("empty then", x.type('.'), 1);
        PinAngels y = new PinAngels();
        Due.type(y, pad + pad + pad);
        due.is("sixty blanks: the end", y.ring(), -80);
        due.is("a letter that is BAD is not put", y.type(31), PinAngels.BAD);
        due.is("nor this", y.type(127), PinAngels.BAD);
        due.is("the first that is", y.type(32), 1);
    }

    /** "in place of all; BEAT 0 (THE DRAW stays)". */
    private static void inPlaceOfAll() {
        PinAngels x = Made.full();
        x.leave(3);
        x.seed(321);
        due.is("a tape of 60 signs", x.ring(), -28);
        due.is("all else stays", x.count(2), 16);
        due.is("nobody", Due.tell(x, "........"), 0);
        int[] none = {0, 0, 0, 0, 0, 0, PinAngels.NONE, 0};
        for (int what = 0; what < 8; what++) {
            due.is("count(" + what + ")", x.count(what), none[what]);
        }
        due.is("THE DRAW stays", x.seed(0), 321);
        due.is("angels begin anew", x.angel(6), 0);
        due.is("figures begin anew", x.figure(4, 4), 0);
        due.is("the tune begins anew", x.tune(0), 1);
        due.is("no FIGURES, no TUNE", Due.tell(x, "*......."), 1);
        due.is("none is left", x.tune(0), PinAngels.BAD);
    }

    /** BEAT 0, nothing to be UNDONE, whatever was asked or refused ahead of it. */
    private static void nothingOfWhatWasTried() {
        PinAngels x = Due.told("*.......;r1,m2:01");
        x.beats(7);
        x.sheet(0, 0, 8);
        due.is("steps", x.steps(0, 1, 0, 0, 0, 8, 1), 0);
        due.is("a ring behind steps", Due.tell(x, "..*....."), 1);
        due.is("BEAT 0", x.count(3), 0);
        due.is("nothing to be undone", x.count(7), 0);
        due.is("undo", x.undo(), PinAngels.NONE);
        due.is("no figures", x.count(1), 0);
        due.is("no tune", x.count(2), 0);
        due.is("a fault behind more than the next ring has", Due.tell(x, "********;c1,c2,c3,c4,c5:01234~"), -49);
        due.is("a ring behind a fault", Due.tell(x, ".......*"), 1);
        due.is("no more angels", x.at(1), PinAngels.BAD);
        due.is("no figures of the fault", x.count(1), 0);
        due.is("no tune of the fault", x.count(2), 0);
    }
}
