/** What all tests share: they tell every answer that is not the one due, and how many were looked at. */
final class Due {
    /** A fault can be seen in very many answers; the first ones tell enough of it. */
    private static final int TOLD_MOST = 200;

    private static int wrong = 0;
    private static int looked = 0;

    private Due() {
    }

    static void is(String call, long got, long want) {
        looked++;
        if (got != want) {
            wrong++;
            if (wrong <= TOLD_MOST) {
                System.out.println(call + " answered " + got + ", due is " + want);
            }
        }
    }

    static void all(String call, long[] got, long... want) {
        is(call + ": how many", got.length, want.length);
        for (int k = 0; k < Math.min(got.length, want.length); k++) {
            is(call + " [" + k + "]", got[k], want[k]);
        }
    }

    static void holds(String what, boolean does) {
        is(what, does ? 1 : 0, 1);
    }

    /** Floats are answered as an int's bits. */
    static long bits(float f) {
        return Float.floatToRawIntBits(f);
    }

    static void feed(Mind mind, String text) {
        for (int k = 0; k < text.length(); k++) {
            is("feed of " + text + " at " + k, mind.feed(text.charAt(k)), mind.count(4));
        }
    }

    static int read(Mind mind, String text) {
        feed(mind, text);
        return mind.read();
    }

    static void records(Mind mind, int record, int... units) {
        mind.record(record, -1);
        for (int k = 0; k < units.length; k++) {
            is("record(" + record + ", " + units[k] + ")", mind.record(record, units[k]), k + 1);
        }
    }

    static void end(String name) {
        System.out.println(name + ": " + looked + " looked at, " + wrong + " not as due");
        if (wrong != 0) {
            System.exit(1);
        }
    }
}
