/** What the tests have in common: answers compared with those that are due, and rings told by texts. */
final class Due {
    private int asked = 0;
    private int wrong = 0;

    void is(String call, long got, long want) {
        asked++;
        if (got != want) {
            wrong++;
            System.out.println(call + " answered " + got + ", due is " + want);
        }
    }

    void holds(String what, boolean so) {
        is(what, so ? 1 : 0, 1);
    }

    void same(String what, String got, String want) {
        asked++;
        if (!got.equals(want)) {
            wrong++;
            System.out.println(what + "\n  is  " + got + "\n  due " + want);
        }
    }

    static void type(PinAngels x, String text) {
        for (int i = 0; i < text.length(); i++) {
            x.type(text.charAt(i));
        }
    }

    /** Types a text and takes it as a ring. */
    static int tell(PinAngels x, String text) {
        type(x, text);
        return x.ring();
    }

    static PinAngels told(String text) {
        PinAngels x = new PinAngels();
        int answer = tell(x, text);
        if (answer < 0) {
            throw new IllegalArgumentException("no ring: " + text + ": " + answer);
        }
        return x;
    }

    /** Puts items to a new row of a sheet. */
    static void lay(PinAngels x, int sheet, int lane, long... items) {
        x.sheet(sheet, lane, items.length);
        for (int i = 0; i < items.length; i++) {
            x.item(sheet, lane, i, items[i]);
        }
    }

    void end(String name) {
        System.out.println(name + ": " + asked + " answers, " + wrong + " not as due");
        if (wrong != 0) {
            System.exit(1);
        }
    }
}
