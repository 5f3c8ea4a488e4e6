import java.nio.charset.StandardCharsets;

/** What the tests of the promises share: an answer held against the one that is due, and texts put on the TAPE. */
abstract class Checks {
    static final int NONE = CrossingSweep.NONE;
    static final int LEAST = Integer.MIN_VALUE;
    static final int MOST = Integer.MAX_VALUE;
    static final String INDEX = "IndexOutOfBoundsException";
    static final String NO_SUCH = "NoSuchElementException";
    static final String ARGUMENT = "IllegalArgumentException";
    static final String STATE = "IllegalStateException";

    private static int wrong = 0;
    private static int asked = 0;

    /** One call of one number. */
    interface OfNumber {
        long answer(int number);
    }

    /** Told at the end of each test's main. */
    static void finish() {
        System.out.println(asked + " answers asked for, " + wrong + " of them wrong");
        if (wrong != 0) {
            System.exit(1);
        }
    }

    static void due(int promise, String what, long got, long want) {
        due(promise, what, Long.toString(got), Long.toString(want));
    }

    static void due(int promise, String what, boolean got, boolean want) {
        due(promise, what, got ? 1 : 0, want ? 1 : 0);
    }

    static void due(int promise, String what, String got, String want) {
        asked++;
        if (!got.equals(want)) {
            wrong++;
            System.out.println("promise " + promise + ": " + what + " answered " + got + ", due is " + want);
        }
    }

    /** That just this is thrown, and that what is told of the PICTURE in a few calls is the same behind it. */
    static void refused(int promise, CrossingSweep x, String name, Calls.Asked call) {
        String ahead = seen(x);
        due(promise, "a call that is refused", Calls.outcome(call), name);
        due(promise, "SEGMENTS, EVENTS, remembered behind a call that throws", seen(x), ahead);
    }

    /** An object is used for 512 calls alone, so few are made here: TwinsTest looks at all. */
    private static String seen(CrossingSweep x) {
        return x.count(0) + " " + x.count(2) + " " + x.count(11);
    }

    /** That each number from 0 to below size is answered, and those next to them and far from them are refused. */
    static void places(int promise, String what, String name, int size, OfNumber call) {
        for (int i = 0; i < size; i++) {
            int number = i;
            String got = Calls.outcome(() -> call.answer(number));
            due(promise, what + " of " + i + " threw", got.endsWith("Exception"), false);
        }
        for (int number : new int[] {size, size + 1, -1, -2, LEAST, MOST}) {
            due(promise, what + " of " + number, Calls.outcome(() -> call.answer(number)), name);
        }
    }

    static void put(CrossingSweep x, String text) {
        byte[] bytes = text.getBytes(StandardCharsets.ISO_8859_1);
        int behind = 0;
        for (int i = 0; i < bytes.length; i += 20) {
            int[] five = new int[5];
            for (int j = 0; j < 20; j++) {
                five[j / 4] = five[j / 4] << 8 | (i + j < bytes.length ? bytes[i + j] & 255 : 0);
            }
            behind = x.feed(five[0], five[1], five[2], five[3], five[4]);
        }
        int rest = (20 - bytes.length % 20) % 20;
        x.end(behind - rest);
    }

    static int tell(CrossingSweep x, String text) {
        put(x, text);
        return x.acts();
    }

    static CrossingSweep of(String text) {
        CrossingSweep x = new CrossingSweep();
        tell(x, text);
        return x;
    }

    /** A text that is wrong at this byte. */
    static void wrongAt(CrossingSweep x, int place, String text) {
        put(x, text);
        refused(4, x, ARGUMENT, x::acts);
        due(5, "fault() of '" + text + "'", x.fault(), place);
    }

    /** A text that is right, of so many ACTS. */
    static void right(CrossingSweep x, int acts, String text) {
        put(x, text);
        due(4, "acts() of '" + text + "'", Calls.outcome(x::acts), Integer.toString(acts));
        due(5, "fault() of '" + text + "'", x.fault(), NONE);
    }

    /** LEFT, RIGHT and TINT of each SEGMENT. */
    static String ends(CrossingSweep x) {
        StringBuilder text = new StringBuilder();
        for (int s = 0; s < x.count(0); s++) {
            for (int what = 0; what < 5; what++) {
                text.append(x.segment(s, what)).append(what < 4 ? ' ' : ';');
            }
        }
        return text.toString();
    }
}
