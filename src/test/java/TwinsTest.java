/**
 * That a call that throws changes nothing but the TAPE, where it is used up, and fault(), where a text is read; that
 * one that answers false or NONE does not either; and that none that asks does: of two objects made alike one has it.
 */
public final class TwinsTest extends Checks {
    /** What is done to an object, or asked of it. */
    private interface Call {
        long on(CrossingSweep x);
    }

    private TwinsTest() {
    }

    public static void main(String[] args) {
        changesThatAreRefused();
        questionsThatAreRefused();
        placesThatAreRefused();
        textsThatAreRefused();
        a25th();
        undoWithoutAny();
        nothingHappens();
        questionsChangeNothing();
        finish();
    }

    /** With SEGMENTS, THE IMAGE, a first wrong byte, 8 that are remembered, and a TAPE. */
    private static CrossingSweep made() {
        CrossingSweep x = of("seg 0 0 8 8 tint 1; seg 0 8 8 0 tint 2; seg 4 -2 4 6; seg 3 3 9 9 tint 3");
        x.image();
        put(x, "turn; x");
        Calls.outcome(x::acts);
        x.tint(0, 3);
        x.move(1, 1, 0);
        x.cut(2);
        x.add(-5, 2, 12, 2, 1);
        x.turn();
        x.tint(1, 0);
        x.add(6, 6, 6, 6, 2);
        x.move(0, -1, 2);
        x.cut(3);
        put(x, "cut 0; turn; seg 1 1 2 2");
        return x;
    }

    /** Uses the object up: what it remembers, its TAPE and THE IMAGE are looked at by taking them. */
    private static String told(CrossingSweep x) {
        StringBuilder text = new StringBuilder();
        text.append(ends(x));
        for (int what = 0; what < 16; what++) {
            text.append(' ').append(x.count(what));
        }
        for (int i = 0; i < 9; i++) {
            text.append("\nundo ").append(Calls.outcome(x::undo)).append(": ").append(ends(x));
        }
        text.append("\nTAPE ").append(x.end(25)).append(' ').append(x.end(24));
        text.append(' ').append(Calls.outcome(x::acts)).append(": ").append(ends(x));
        text.append("\nIMAGE ").append(x.back()).append(": ").append(ends(x));
        return text.toString();
    }

    private static void refusedAlike(int promise, String name, Call call) {
        CrossingSweep x = made();
        due(promise, "what is thrown", Calls.outcome(() -> call.on(x)), name);
        due(promise, "fault() behind it", x.fault(), 6);
        due(promise, "all behind a call that throws", told(x), told(made()));
    }

    private static void changesThatAreRefused() {
        refusedAlike(6, ARGUMENT, x -> x.add(1000, 0, 0, 0, 0));
        refusedAlike(6, ARGUMENT, x -> x.add(0, -1000, 0, 0, 0));
        refusedAlike(6, ARGUMENT, x -> x.add(0, 0, -1000, 0, 0));
        refusedAlike(6, ARGUMENT, x -> x.add(0, 0, 0, 1000, 0));
        refusedAlike(6, ARGUMENT, x -> x.add(0, 0, 0, 0, 4));
        refusedAlike(6, ARGUMENT, x -> x.add(0, 0, 0, 0, -1));
        refusedAlike(7, INDEX, x -> x.cut(4));
        refusedAlike(7, INDEX, x -> x.cut(-1));
        refusedAlike(8, INDEX, x -> x.move(4, 1, 1));
        refusedAlike(8, INDEX, x -> x.move(-1, 1, 1));
        refusedAlike(8, ARGUMENT, x -> x.move(0, 1001, 0));
        refusedAlike(8, ARGUMENT, x -> x.move(0, 0, 990));
        refusedAlike(8, ARGUMENT, x -> x.move(0, MOST, LEAST));
        refusedAlike(9, INDEX, x -> x.tint(4, 1));
        refusedAlike(9, INDEX, x -> x.tint(-1, 1));
        refusedAlike(9, ARGUMENT, x -> x.tint(0, 4));
        refusedAlike(9, ARGUMENT, x -> x.tint(0, -1));
    }

    private static void questionsThatAreRefused() {
        refusedAlike(12, INDEX, x -> x.segment(4, 0));
        refusedAlike(12, NO_SUCH, x -> x.segment(0, 9));
        refusedAlike(13, INDEX, x -> x.how(0, 4));
        refusedAlike(13, ARGUMENT, x -> x.how(1, 1));
        refusedAlike(14, INDEX, x -> x.meet(4, 0, 0));
        refusedAlike(14, NO_SUCH, x -> x.meet(0, 1, 4));
        refusedAlike(14, ARGUMENT, x -> x.meet(1, 1, 0));
        refusedAlike(14, STATE, x -> x.meet(0, 3, 0));
        refusedAlike(15, INDEX, x -> x.along(0, -1, 0));
        refusedAlike(15, NO_SUCH, x -> x.along(0, 1, -1));
        refusedAlike(15, ARGUMENT, x -> x.along(2, 2, 0));
        refusedAlike(15, STATE, x -> x.along(0, 1, 0));
        refusedAlike(16, INDEX, x -> x.crossing(x.count(1), 0));
        refusedAlike(16, NO_SUCH, x -> x.crossing(0, 7));
        refusedAlike(17, INDEX, x -> x.event(x.count(2), 0));
        refusedAlike(17, NO_SUCH, x -> x.event(0, 10));
        refusedAlike(18, INDEX, x -> x.status(-1, NONE));
        refusedAlike(19, INDEX, x -> x.rank(4, 0));
        refusedAlike(19, INDEX, x -> x.rank(0, -1));
        refusedAlike(20, INDEX, x -> x.road(0, x.count(2)));
        refusedAlike(22, INDEX, x -> x.tied(4));
        refusedAlike(23, INDEX, x -> x.steps(0, 4));
        refusedAlike(24, INDEX, x -> x.hull(x.count(14), true));
        refusedAlike(25, INDEX, x -> x.on(4, 0));
    }

    private static void placesThatAreRefused() {
        refusedAlike(26, ARGUMENT, x -> x.at(1000, 0));
        refusedAlike(27, ARGUMENT, x -> x.next(0, 1000, true));
        refusedAlike(28, ARGUMENT, x -> x.over(-1000, 0));
        refusedAlike(29, ARGUMENT, x -> x.sight(0, 0, 0, -1000));
        refusedAlike(30, ARGUMENT, x -> x.box(1, 0, 0, 0));
        refusedAlike(30, ARGUMENT, x -> x.box(0, 0, 1000, 0));
        refusedAlike(31, ARGUMENT, x -> x.tinted(0, 4));
    }

    private static void textsThatAreRefused() {
        String[] texts = {"x", "cut 0;cut 0;cut 0;cut 0;cut 0", "seg 1 1 2 2;turn;tint 0 0;move 3 by 0 999",
            "turn;".repeat(14) + "turn", "turn;turn;", "seg 1 1 2 2 tint", "tint 0 0;tint 0 4"};
        int[] places = {0, 28, 26, 70, 10, 16, 16};
        for (int i = 0; i < texts.length; i++) {
            CrossingSweep x = made();
            x.end(0);
            put(x, texts[i]);
            due(4, "what is thrown", Calls.outcome(x::acts), ARGUMENT);
            due(5, "fault() behind it", x.fault(), places[i]);
            CrossingSweep other = made();
            other.end(0);
            due(4, "all but the TAPE and fault() behind '" + texts[i] + "'", told(x), told(other));
        }
    }

    private static CrossingSweep full() {
        CrossingSweep x = new CrossingSweep();
        for (int i = 0; i < 24; i++) {
            x.add(i, -i, 23 - i, i, i & 3);
        }
        put(x, "turn");
        return x;
    }

    private static void a25th() {
        CrossingSweep x = full();
        due(6, "a 25th by hand", Calls.outcome(() -> x.add(0, 0, 1, 1, 0)), STATE);
        CrossingSweep other = full();
        due(6, "what it remembers", x.count(11), other.count(11));
        due(6, "SEGMENTS", ends(x), ends(other));
        due(6, "its TAPE", x.end(5) || !x.end(4), false);
        due(6, "what is taken back", x.undo() + ends(x), other.undo() + ends(other));
        CrossingSweep byText = full();
        byText.end(0);
        put(byText, "turn; cut 0; seg 1 1 2 2; seg 0 0 1 1");
        due(4, "a 25th by a text", Calls.outcome(byText::acts), ARGUMENT);
        due(5, "its first word", byText.fault(), 26);
        due(4, "what is taken back", byText.undo() + ends(byText), 7 + ends(other));
    }

    private static void undoWithoutAny() {
        CrossingSweep x = new CrossingSweep();
        CrossingSweep other = new CrossingSweep();
        for (CrossingSweep each : new CrossingSweep[] {x, other}) {
            tell(each, "seg 0 0 8 8 tint 1; seg 0 8 8 0 tint 2");
            each.image();
            tell(each, "turn; cut 0");
            put(each, "cut 0; turn; seg 1 1 2 2");
        }
        due(11, "what is thrown", Calls.outcome(x::undo), STATE);
        due(11, "fault() behind it", x.fault(), NONE);
        due(11, "all behind it", told(x), told(other));
    }

    private static void nothingHappens() {
        CrossingSweep x = made();
        for (int n : new int[] {-1, LEAST, 25, 400, MOST}) {
            due(3, "the first " + n, x.end(n), false);
        }
        due(3, "all behind it", told(x), told(made()));
        CrossingSweep full = made();
        for (int i = 0; i < 18; i++) {
            full.feed(0, 0, 0, 0, 0);
        }
        due(2, "384 are there", full.feed(0, 0, 0, 0, 0), NONE);
        full.end(24);
        due(2, "all behind it", told(full), told(made()));
        CrossingSweep none = new CrossingSweep();
        CrossingSweep other = new CrossingSweep();
        for (CrossingSweep each : new CrossingSweep[] {none, other}) {
            tell(each, "seg 0 0 8 8 tint 1; seg 0 8 8 0 tint 2");
            each.turn();
            each.cut(1);
            put(each, "cut 0; turn; seg 1 1 2 2");
        }
        due(33, "none was kept", none.back(), false);
        due(33, "all behind it", told(none), told(other));
    }

    private static void questionsChangeNothing() {
        CrossingSweep x = made();
        Call[] all = {y -> y.fault(), y -> y.segment(0, 8), y -> y.how(0, 1), y -> y.meet(0, 1, 0), y -> y.crossing(0,
                0),
            y -> y.event(0, 9), y -> y.status(0, 0), y -> y.rank(0, 1), y -> y.road(0, 1), y -> y.view(0),
                    y -> y.tied(0),
            y -> y.steps(0, 1), y -> y.hull(1, true), y -> y.on(0, 0), y -> y.at(0, 0), y -> y.next(0, 0, true),
            y -> y.over(0, 0), y -> y.sight(-9, -9, 9, 9), y -> y.box(0, 0, 9, 9), y -> y.tinted(0, 1),
                    y -> y.count(10)};
        StringBuilder first = new StringBuilder();
        StringBuilder second = new StringBuilder();
        for (Call call : all) {
            first.append(Calls.outcome(() -> call.on(x))).append(' ');
        }
        for (Call call : all) {
            second.append(Calls.outcome(() -> call.on(x))).append(' ');
        }
        due(34, "the same answers again", second.toString(), first.toString());
        due(34, "all behind what is asked", told(x), told(made()));
    }
}
