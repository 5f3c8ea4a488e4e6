/** What is asked of SEGMENTS, CROSSINGS and EVENTS (promises 12 to 25): the boundaries of each. */
public final class QuestionBoundsTest extends Checks {
    /** Two slanted ones and a level one through 0 0, one that ends there, a mere point apart. */
    private static final String PICTURE = "seg -9 -9 9 9; seg -9 9 9 -9 tint 1; seg -9 0 9 0 tint 2;"
            + "seg 0 0 0 9 tint 3;"
            + "seg 50 50 50 50";
    /** Their first two MEET to the right of where the other two do by less than a double tells, and far below it. */
    private static final String CLOSE = "seg 555 -999 965 800; seg -923 941 928 -375; seg 524 919 975 -817;"
            + "seg -452 -904 999 364";
    /** Each two MEET, in three points that lie less than a thousand millionth from one another. */
    private static final String CLOSE_BUNDLE = "seg -975 -826 658 936; seg -764 657 745 -536; seg -924 34 312 171";

    private QuestionBoundsTest() {
    }

    public static void main(String[] args) {
        promise12SegmentsAndWhats();
        promise12Kinds();
        promise12CrossingsOnIt();
        promise12PiecesAndPart();
        promise13SegmentsAndOneTwice();
        promise13Hows();
        promise13OfOthersThanTheFirst();
        promise14SegmentsAndWhats();
        promise14NumbersInLowestTerms();
        promise14WhetherTheyMeet();
        promise15SegmentsAndWhats();
        promise15FromPointToPoint();
        promise16CrossingsAndWhats();
        promise16EachOnceInOrder();
        promise16ExactToTheLastPart();
        promise16BundleAndTints();
        promise17EventsAndWhats();
        promise17EachOnceInOrder();
        promise17LeftsRightsInsides();
        promise17SpreadAndDegree();
        promise18EventsAndPlaces();
        promise18FromLeftToRight();
        promise18OfLikeY();
        promise18ExactToTheLastPart();
        promise19SegmentsAndEvents();
        promise20Events();
        promise20FewestEdges();
        promise21Views();
        promise22Tied();
        promise23Steps();
        promise24EndsOfHull();
        promise25CrossingsOnOne();
        finish();
    }

    private static String row(int size, OfNumber call) {
        StringBuilder text = new StringBuilder();
        for (int i = 0; i < size; i++) {
            text.append(i > 0 ? " " : "").append(call.answer(i));
        }
        return text.toString();
    }

    private static void promise12SegmentsAndWhats() {
        CrossingSweep x = of(PICTURE);
        places(12, "segment", INDEX, 5, s -> x.segment(s, 0));
        places(12, "what", NO_SUCH, 9, what -> x.segment(4, what));
        // the one told first is thrown
        places(12, "segment", INDEX, 0, s -> x.segment(s < 5 && s >= 0 ? 5 : s, 9));
        due(12, "of the first", row(9, what -> x.segment(0, what)), "-9 -9 9 9 0 3 1 2 15");
        due(12, "of the last", row(9, what -> x.segment(4, what)), "50 50 50 50 0 0 0 0 16");
    }

    private static void promise12Kinds() {
        CrossingSweep x = of("seg 5 5 5 5; seg 5 5 5 6; seg 5 6 5 5; seg 5 5 6 5; seg 6 5 5 5; seg 5 5 6 6;"
                + "seg 5 6 6 5;"
                + "seg -999 -999 -999 999; seg -999 -999 999 -999; seg -999 -999 999 -998; seg -999 -999 -998 999");
        due(12, "KINDS", row(11, s -> x.segment(s, 5)), "0 1 1 2 2 3 3 1 2 3 3");
    }

    private static void promise12CrossingsOnIt() {
        CrossingSweep x = of("seg 0 0 9 0; seg 2 0 12 0; seg 4 0 4 4; seg 0 0 0 4; seg 9 1 9 4; seg 12 0 12 4;"
                + "seg 9 0 9 0");
        due(12, "ENDS that touch, and those of others that lie on it", row(7, s -> x.segment(s, 6)), "3 3 1 1 0 1 1");
        CrossingSweep many = of("seg -9 -9 9 9; seg -9 9 9 -9; seg -9 0 9 0; seg 0 -9 0 9");
        due(12, "all in one point are one", row(4, s -> many.segment(s, 6)), "1 1 1 1");
    }

    private static void promise12PiecesAndPart() {
        CrossingSweep x = of("seg 0 0 9 0; seg 4 0 12 0; seg 2 0 2 4; seg 2 2 2 2; seg 2 5 2 6; seg 40 0 40 1;"
                + "seg 40 1 41 1");
        due(12, "PIECES", row(7, s -> x.segment(s, 7)), "3 2 2 0 1 1 1");
        due(12, "PARTS", row(7, s -> x.segment(s, 8)), "15 15 15 15 16 96 96");
        CrossingSweep chain = new CrossingSweep();
        for (int i = 0; i < 24; i++) {
            chain.add(i, i % 2, i + 1, 1 - i % 2, 0);
        }
        due(12, "PART of 24", chain.segment(23, 8), (1 << 24) - 1);
        chain.cut(12);
        due(12, "PART behind a gap", chain.segment(22, 8), (1 << 23) - (1 << 12));
        due(12, "PART ahead of it", chain.segment(0, 8), (1 << 12) - 1);
    }

    private static void promise13SegmentsAndOneTwice() {
        CrossingSweep x = of(PICTURE);
        places(13, "segment", INDEX, 4, s -> s == 4 ? x.how(5, 4) : x.how(s, 4));
        places(13, "other", INDEX, 4, s -> s == 4 ? x.how(4, 5) : x.how(4, s));
        for (int s = 0; s < 5; s++) {
            int one = s;
            refused(13, x, ARGUMENT, () -> x.how(one, one));
        }
        // the one told first is thrown
        refused(13, x, INDEX, () -> x.how(5, 5));
        refused(13, x, INDEX, () -> x.how(-1, -1));
        CrossingSweep single = of("seg 0 0 1 1");
        refused(13, single, ARGUMENT, () -> single.how(0, 0));
        refused(13, single, INDEX, () -> single.how(0, 1));
        refused(13, single, INDEX, () -> single.how(1, 0));
    }

    private static void howIs(int want, String text) {
        CrossingSweep x = of(text);
        due(13, text, x.how(0, 1), want);
        due(13, text + ", about", x.how(1, 0), want);
        x.turn();
        due(13, text + ", turned", x.how(0, 1), want);
    }

    private static void promise13Hows() {
        howIs(4, "seg 1 2 3 4 tint 1; seg 3 4 1 2");
        howIs(4, "seg 1 2 1 2; seg 1 2 1 2");
        howIs(4, "seg 1 2 1 9; seg 1 2 1 9");
        howIs(3, "seg 0 0 6 3; seg 0 0 4 2");
        howIs(3, "seg 0 0 6 3; seg 6 3 4 2");
        howIs(3, "seg 0 0 6 3; seg 2 1 4 2");
        howIs(3, "seg 0 0 6 3; seg 4 2 8 4");
        howIs(3, "seg 0 0 0 3; seg 0 2 0 9");
        howIs(3, "seg 0 0 3 0; seg 2 0 9 0");
        howIs(2, "seg 0 0 6 3; seg 0 3 6 0");
        howIs(2, "seg 0 0 9 9; seg 1 0 0 1");
        howIs(2, "seg 0 0 9 1; seg 1 -1 2 1");
        howIs(2, "seg 5 -5 5 5; seg 0 0 9 0");
        howIs(2, "seg 5 -5 5 5; seg 4 -5 6 5");
        howIs(1, "seg 0 0 6 3; seg 6 3 8 4");
        howIs(1, "seg 0 0 6 3; seg 6 3 8 9");
        howIs(1, "seg 0 0 1 0; seg 0 0 0 1");
        howIs(1, "seg 0 0 1 0; seg 1 0 2 1");
        howIs(1, "seg 0 0 6 3; seg 4 2 4 9");
        howIs(1, "seg 0 0 6 3; seg 4 -9 4 2");
        howIs(1, "seg 0 0 6 3; seg 0 0 6 -3");
        howIs(1, "seg 0 0 6 3; seg 4 2 4 2");
        howIs(1, "seg 0 0 6 3; seg 0 0 0 0");
        howIs(1, "seg 0 0 6 3; seg 6 3 6 3");
        howIs(1, "seg 0 3 6 0; seg 0 3 0 3");
        howIs(1, "seg 0 3 6 0; seg 6 0 6 0");
        howIs(1, "seg 0 3 6 0; seg 2 2 2 2");
        howIs(1, "seg 0 0 0 3; seg 0 3 0 9");
        howIs(1, "seg 0 0 999 998; seg 999 998 999 999");
        howIs(0, "seg 0 0 6 3; seg 8 4 10 5");
        howIs(0, "seg 0 0 6 3; seg 7 3 9 4");
        howIs(0, "seg 0 0 6 3; seg 8 4 8 4");
        howIs(0, "seg 0 0 6 3; seg 3 1 3 1");
        howIs(0, "seg 0 0 0 3; seg 0 4 0 9");
        howIs(0, "seg 0 0 3 0; seg 4 0 9 0");
        howIs(0, "seg 1 1 1 1; seg 1 2 1 2");
        howIs(0, "seg 1 1 1 1; seg 2 1 2 1");
        howIs(0, "seg 0 0 6 0; seg 0 1 6 1");
        howIs(0, "seg 0 0 6 3; seg 6 2 8 0");
        howIs(0, "seg 0 0 6 3; seg 2 0 3 1");
        // beyond an END by the least part
        howIs(0, "seg 0 0 1 0; seg 1 1 2 4");
        howIs(0, "seg 0 0 1 0; seg 1 -1 2 -4");
        howIs(0, "seg 0 0 1 0; seg 0 -4 1 -1");
        howIs(0, "seg 0 0 1 0; seg -1 4 0 1");
        howIs(0, "seg 0 0 999 998; seg 1 0 2 1");
        howIs(0, "seg -999 -999 998 997; seg 999 998 999 999");
        howIs(0, "seg -999 -999 999 999; seg -998 -999 999 998");
    }

    private static void promise13OfOthersThanTheFirst() {
        CrossingSweep x = of("seg 0 5 9 9; seg 0 1 9 4; seg 0 5 9 4; seg 0 5 9 4; seg 1 5 9 4; seg 0 5 8 4;"
                + "seg 0 5 9 9");
        due(13, "LEFT of unlike Y", x.how(1, 2), 1);
        due(13, "both ENDS alike", x.how(2, 3), 4);
        due(13, "LEFT of unlike X", x.how(3, 4), 1);
        due(13, "RIGHT of unlike X", x.how(3, 5), 1);
        due(13, "RIGHT of unlike Y", x.how(3, 6), 1);
        due(13, "of the first and the last", x.how(0, 6), 4);
    }

    private static void promise14SegmentsAndWhats() {
        CrossingSweep x = of(PICTURE + "; seg -3 -3 4 4");
        places(14, "segment", INDEX, 0, s -> x.meet(s >= 0 && s < 6 ? 6 : s, 1, 0));
        places(14, "other", INDEX, 0, s -> x.meet(1, s >= 0 && s < 6 ? 6 : s, 0));
        places(14, "what", NO_SUCH, 4, what -> x.meet(0, 1, what));
        due(14, "the last", x.meet(1, 5, 3), 1);
        for (int what = 0; what < 4; what++) {
            int asked = what;
            refused(14, x, ARGUMENT, () -> x.meet(0, 0, asked));
            refused(14, x, STATE, () -> x.meet(0, 4, asked));
            refused(14, x, STATE, () -> x.meet(0, 5, asked));
        }
        // the one told first is thrown
        refused(14, x, INDEX, () -> x.meet(6, 6, 4));
        refused(14, x, INDEX, () -> x.meet(0, -1, -1));
        refused(14, x, NO_SUCH, () -> x.meet(0, 0, 4));
        refused(14, x, NO_SUCH, () -> x.meet(0, 4, -1));
        refused(14, x, ARGUMENT, () -> x.meet(4, 4, 0));
    }

    private static String point(CrossingSweep x, int segment, int other) {
        return row(4, what -> x.meet(segment, other, what));
    }

    private static void promise14NumbersInLowestTerms() {
        CrossingSweep x = of("seg -4 -4 4 4; seg -4 4 4 -4; seg 0 -1 4 4; seg -3 0 0 -4; seg 0 4 4 0;"
                + "seg -4 0 3 -1; seg 9 9 9 9;"
                + "seg 9 9 9 9");
        due(14, "0 is 0 over 1", point(x, 0, 1), "0 1 0 1");
        due(14, "an upper one below 0", point(x, 1, 2), "4 9 -4 9");
        due(14, "both below 0", point(x, 0, 3), "-12 7 -12 7");
        due(14, "whole", point(x, 0, 4), "2 1 2 1");
        due(14, "X and Y of unlike lower ones", point(x, 0, 5), "-1 2 -1 2");
        due(14, "mere points", point(x, 6, 7), "9 1 9 1");
        CrossingSweep unlike = of("seg 0 0 3 1; seg 1 -1 2 3; seg 0 0 0 0");
        due(14, "lower ones of their own", point(unlike, 0, 1), "15 11 5 11");
        CrossingSweep upright = of("seg -1 -2 1 3; seg 0 -9 0 9");
        due(14, "X whole, Y in halves", point(upright, 1, 0), "0 1 1 2");
        CrossingSweep close = of(CLOSE);
        due(14, "far beyond an int", point(close, 0, 1), "2822393215 3869509 -129239969 552787");
        due(14, "about", point(close, 1, 0), "2822393215 3869509 -129239969 552787");
        due(14, "its neighbour", point(close, 2, 3), "2254411151 3090804 99211649 772701");
        due(14, "of other lower ones", point(close, 0, 2), "4104245 5307 -8890499 217587");
        CrossingSweep great = of("seg -999 -999 999 998; seg -999 999 998 -999");
        due(14, "nearly as great a lower number as there can be", point(great, 0, 1), "-999 7980013 -3991005 7980013");
        CrossingSweep wide = of("seg -999 -999 999 998; seg -999 999 999 -998; seg -999 -998 998 999;"
                + "seg -998 999 999 -999");
        due(14, "across all", point(wide, 0, 1), "999 1997 0 1");
        due(14, "across all", point(wide, 2, 3), "-998 3995 2997 3995");
    }

    private static void promise14WhetherTheyMeet() {
        CrossingSweep x = of("seg 0 0 6 3; seg 6 3 8 4; seg 4 2 4 2; seg 2 1 8 4; seg 6 3 6 3; seg 6 3 6 3;"
                + "seg 8 3 9 9");
        due(14, "END to END in one line", point(x, 0, 1), "6 1 3 1");
        due(14, "a mere point in one", point(x, 2, 0), "4 1 2 1");
        due(14, "a mere point in an END", point(x, 0, 4), "6 1 3 1");
        due(14, "two mere points", point(x, 4, 5), "6 1 3 1");
        refused(14, x, STATE, () -> x.meet(0, 3, 0));
        refused(14, x, STATE, () -> x.meet(1, 3, 3));
        refused(14, x, STATE, () -> x.meet(2, 4, 0));
        refused(14, x, STATE, () -> x.meet(1, 6, 0));
        due(14, "an END of both", point(of("seg 1 2 5 5; seg 5 5 9 -7"), 0, 1), "5 1 5 1");
    }

    private static void promise15SegmentsAndWhats() {
        CrossingSweep x = of(PICTURE + "; seg -3 -3 4 4");
        places(15, "segment", INDEX, 0, s -> x.along(s >= 0 && s < 6 ? 6 : s, 5, 0));
        places(15, "other", INDEX, 0, s -> x.along(0, s >= 0 && s < 6 ? 6 : s, 0));
        places(15, "what", NO_SUCH, 4, what -> x.along(0, 5, what));
        for (int what = 0; what < 4; what++) {
            int asked = what;
            refused(15, x, ARGUMENT, () -> x.along(5, 5, asked));
            refused(15, x, STATE, () -> x.along(0, 4, asked));
            refused(15, x, STATE, () -> x.along(0, 1, asked));
        }
        // the one told first is thrown
        refused(15, x, INDEX, () -> x.along(6, 6, 4));
        refused(15, x, INDEX, () -> x.along(0, -1, -1));
        refused(15, x, NO_SUCH, () -> x.along(0, 0, 4));
        refused(15, x, NO_SUCH, () -> x.along(0, 1, -1));
        refused(15, x, ARGUMENT, () -> x.along(4, 4, 0));
    }

    private static void alongIs(String want, String text) {
        CrossingSweep x = of(text);
        due(15, text, row(4, what -> x.along(0, 1, what)), want);
        due(15, text + ", about", row(4, what -> x.along(1, 0, what)), want);
        due(34, text + ": pairs that lie ALONG one another", x.count(3), 1);
        due(34, text + ": pairs that MEET", x.count(15), 0);
    }

    private static void promise15FromPointToPoint() {
        alongIs("1 2 3 4", "seg 1 2 3 4; seg 3 4 1 2");
        alongIs("0 0 4 2", "seg 6 3 0 0; seg 4 2 0 0");
        alongIs("4 2 6 3", "seg 6 3 0 0; seg 6 3 4 2");
        alongIs("2 1 4 2", "seg 0 0 6 3; seg 4 2 2 1");
        alongIs("4 2 6 3", "seg 6 3 0 0; seg 8 4 4 2");
        alongIs("4 -2 6 -3", "seg 0 0 6 -3; seg 4 -2 8 -4");
        alongIs("0 2 0 3", "seg 0 3 0 0; seg 0 9 0 2");
        alongIs("2 0 3 0", "seg 3 0 0 0; seg 9 0 2 0");
        alongIs("-999 -999 999 999", "seg 999 999 -999 -999; seg -999 -999 999 999");
        for (String text : new String[] {"seg 0 0 6 3; seg 6 3 8 4", "seg 0 0 6 3; seg 4 2 4 2",
            "seg 1 1 1 1; seg 1 1 1 1",
            "seg 0 0 6 3; seg 0 1 6 4", "seg 0 0 0 3; seg 0 3 0 9", "seg 0 0 6 3; seg 8 4 10 5"}) {
            CrossingSweep x = of(text);
            refused(15, x, STATE, () -> x.along(0, 1, 0));
            refused(15, x, STATE, () -> x.along(1, 0, 3));
            due(34, text + ": pairs that lie ALONG one another", x.count(3), 0);
        }
    }

    private static void promise16CrossingsAndWhats() {
        CrossingSweep x = of(PICTURE + "; seg 7 -9 7 9");
        due(16, "CROSSINGS", x.count(1), 4);
        places(16, "crossing", INDEX, 4, k -> x.crossing(k, 0));
        places(16, "what", NO_SUCH, 7, what -> x.crossing(3, what));
        // the one told first is thrown
        refused(16, x, INDEX, () -> x.crossing(4, 7));
        refused(16, x, INDEX, () -> x.crossing(-1, -1));
        CrossingSweep none = of("seg 0 0 5 5; seg 0 0 5 5; seg 0 1 5 6");
        places(16, "crossing", INDEX, 0, k -> none.crossing(k, 0));
    }

    private static String crossing(CrossingSweep x, int k) {
        return row(7, what -> x.crossing(k, what));
    }

    private static void promise16EachOnceInOrder() {
        CrossingSweep x = of("seg 0 0 4 4; seg 0 4 4 0; seg 0 2 4 2; seg 2 0 2 9; seg 0 8 4 8; seg 0 7 4 9;"
                + "seg 1 -2 3 -2;"
                + "seg 2 -5 2 -2; seg 0 1 4 2; seg 3 7 3 9");
        String[] want = {"4 3 4 3 2 257 1", "2 1 -2 1 2 192 1", "2 1 3 2 2 264 1", "2 1 2 1 4 15 1", "2 1 8 1 3 56 1",
            "12 5 8 5 2 258 1", "3 1 8 1 2 528 1", "3 1 17 2 2 544 1", "4 1 2 1 2 260 1"};
        due(16, "CROSSINGS", x.count(1), want.length);
        for (int k = 0; k < want.length; k++) {
            due(16, "the " + k + "-th", crossing(x, k), want[k]);
        }
    }

    private static void promise16ExactToTheLastPart() {
        CrossingSweep x = of(CLOSE);
        due(16, "CROSSINGS", x.count(1), 6);
        due(16, "the lesser X by 8 parts of 100 million millions", crossing(x, 1),
                "2254411151 3090804 99211649 772701 2 12 1");
        due(16, "then the greater", crossing(x, 2), "2822393215 3869509 -129239969 552787 2 3 1");
        CrossingSweep bundle = of(CLOSE_BUNDLE);
        due(16, "three, not one", bundle.count(1), 3);
        due(16, "the first", crossing(bundle, 0), "-51867904 560427 212108773 1681281 2 6 1");
        due(16, "the second", crossing(bundle, 1), "-426383515 4607027 581218038 4607027 2 3 1");
        due(16, "the third", crossing(bundle, 2), "-180854316 1954111 246528740 1954111 2 5 1");
        // one point that is no whole one, in three
        CrossingSweep thirds = of("seg 0 0 1 1; seg 0 1 1 -1; seg 0 -1 1 3; seg 1 0 -1 1");
        due(16, "one, not six", thirds.count(1), 1);
        due(16, "with all of them", crossing(thirds, 0), "1 3 1 3 4 15 1");
    }

    private static void promise16BundleAndTints() {
        CrossingSweep x = of("seg 0 0 8 0 tint 3; seg 0 0 8 0 tint 3; seg 4 0 12 0 tint 1; seg 4 -4 4 4 tint 1;"
                + "seg 2 0 2 0 tint 2;"
                + "seg 9 0 9 5");
        due(16, "a mere point in two that lie ALONG one another", crossing(x, 0), "2 1 0 1 3 19 12");
        due(16, "with one that ends there", crossing(x, 1), "4 1 0 1 4 15 10");
        due(16, "in one alone", crossing(x, 2), "9 1 0 1 2 36 3");
        due(16, "in which two lie ALONG alone is none", x.count(1), 3);
        due(16, "TINTS of the first and of the last", of("seg 0 0 4 4 tint 3; seg 0 4 4 0 tint 1").crossing(0, 6), 10);
        CrossingSweep all = new CrossingSweep();
        for (int i = 0; i < 24; i++) {
            all.add(-12, i - 12, 12, 12 - i, i / 6);
        }
        due(16, "all of 24", crossing(all, 0), "0 1 0 1 24 16777215 15");
        due(34, "it is the one", all.count(1), 1);
    }

    private static void promise17EventsAndWhats() {
        CrossingSweep x = of(PICTURE);
        due(17, "EVENTS", x.count(2), 9);
        places(17, "event", INDEX, 9, k -> x.event(k, 0));
        places(17, "what", NO_SUCH, 10, what -> x.event(8, what));
        // the one told first is thrown
        refused(17, x, INDEX, () -> x.event(9, 10));
        refused(17, x, INDEX, () -> x.event(-1, -1));
        CrossingSweep none = new CrossingSweep();
        places(17, "event", INDEX, 0, k -> none.event(k, 0));
    }

    private static String event(CrossingSweep x, int k) {
        return row(10, what -> x.event(k, what));
    }

    private static void promise17EachOnceInOrder() {
        CrossingSweep x = of("seg 0 3 2 0; seg 0 0 2 3; seg 0 0 0 3; seg 0 1 0 1; seg 2 0 2 0");
        String[] want = {"0 1 0 1 6 0 0 0 0 2", "0 1 1 1 8 8 4 1 0 2", "0 1 3 1 1 4 0 2 0 2", "1 1 3 2 0 0 3 3 1 4",
            "2 1 0 1 16 17 0 4 0 1", "2 1 3 1 0 2 0 -1 0 1"};
        due(17, "EVENTS", x.count(2), want.length);
        for (int k = 0; k < want.length; k++) {
            due(17, "the " + k + "-th", event(x, k), want[k]);
        }
        CrossingSweep close = of(CLOSE);
        due(17, "the lesser X", event(close, 5), "2254411151 3090804 99211649 772701 0 0 12 1 1 4");
        due(17, "then the greater", event(close, 6), "2822393215 3869509 -129239969 552787 0 0 3 2 1 4");
    }

    private static void promise17LeftsRightsInsides() {
        CrossingSweep x = of("seg 0 0 5 0; seg 5 0 9 0; seg 2 0 7 0; seg 5 0 5 0; seg 5 -3 5 3; seg 5 0 5 8;"
                + "seg 5 -8 5 0");
        due(17, "in the middle of all", row(4, what -> x.event(4, what + 4)), "42 73 20 0");
        due(17, "where it is", row(4, what -> x.event(4, what)), "5 1 0 1");
        CrossingSweep one = of("seg 3 3 3 3");
        due(17, "a mere point", event(one, 0), "3 1 3 1 1 1 0 -1 0 0");
        CrossingSweep full = new CrossingSweep();
        for (int i = 0; i < 24; i++) {
            full.add(0, 0, i + 1, 1, 0);
        }
        due(17, "LEFT of 24", full.event(0, 4), (1 << 24) - 1);
        full.turn();
        full.turn();
        due(17, "RIGHT of 24", full.event(24, 5), (1 << 24) - 1);
    }

    private static void promise17SpreadAndDegree() {
        // an END of one of them does not count, nor do two that lie ALONG one another
        CrossingSweep x = of("seg -4 -4 4 4; seg -4 4 4 -4; seg -4 0 4 0; seg -3 0 3 0; seg 0 0 0 5; seg 0 0 0 0");
        due(17, "SPREAD", x.event(4, 8), 5);
        due(17, "DEGREE: two of the level ones are one EDGE", x.event(4, 9), 7);
        CrossingSweep four = of("seg -4 0 4 0; seg -4 0 4 0; seg -4 0 4 0; seg -4 0 4 0; seg 0 -4 0 4");
        due(17, "SPREAD of four that lie ALONG one another and one across", four.event(2, 8), 4);
        due(17, "SPREAD of an END", x.event(0, 8), 0);
        due(17, "DEGREE of an END", x.event(0, 9), 1);
        due(17, "DEGREE of an END in another one", x.event(3, 9), 2);
        CrossingSweep apart = of("seg 0 0 9 0; seg 0 0 9 0; seg 3 0 3 4; seg 6 0 12 0");
        due(17, "EDGES of those that lie ALONG one another are one", row(6, k -> apart.event(k, 9)), "1 3 1 2 2 1");
        due(34, "EDGES", apart.count(4), 5);
        CrossingSweep unlike = of("seg 0 0 9 0; seg 0 0 4 4; seg 4 4 9 0");
        due(17, "from one to one other EVENT, but not ALONG one another", row(3, k -> unlike.event(k, 9)), "2 2 2");
        CrossingSweep all = new CrossingSweep();
        for (int i = 0; i < 24; i++) {
            all.add(-12, i - 12, 12, 12 - i, 0);
        }
        due(17, "SPREAD of 24", all.event(24, 8), 276);
        due(17, "DEGREE of 24", all.event(24, 9), 48);
        due(34, "all SPREADS", all.count(13), 276);
    }

    private static String status(CrossingSweep x, int k) {
        StringBuilder text = new StringBuilder();
        int many = x.status(k, NONE);
        for (int i = 0; i < many; i++) {
            text.append(i > 0 ? " " : "").append(x.status(k, i));
        }
        return text.toString();
    }

    private static void promise18EventsAndPlaces() {
        CrossingSweep x = of(PICTURE);
        places(18, "event", INDEX, 9, k -> x.status(k, 0));
        places(18, "event, for how many", INDEX, 9, k -> x.status(k, NONE));
        due(18, "how many", x.status(2, NONE), 3);
        for (int i : new int[] {-2, -3, 3, 4, 24, LEAST, MOST}) {
            due(18, "without a " + i + "-th", x.status(2, i), NONE);
            refused(18, x, INDEX, () -> x.status(9, i));
        }
        due(18, "behind the last", x.status(8, NONE), 0);
        due(18, "nobody", x.status(8, 0), NONE);
        CrossingSweep all = new CrossingSweep();
        for (int i = 0; i < 24; i++) {
            all.add(-12, 12 - i, 12, i - 12, 0);
        }
        due(18, "24", all.status(23, NONE), 24);
        due(18, "the first of 24", all.status(23, 0), 23);
        due(18, "the last of 24", all.status(23, 23), 0);
        due(18, "without a 25th", all.status(23, 24), NONE);
        due(18, "behind their point", all.status(24, 0), 0);
        due(18, "behind their point", all.status(24, 23), 23);
        due(18, "without a 25th", all.status(24, 24), NONE);
    }

    private static void promise18FromLeftToRight() {
        // one that begins in the EVENT is met, one that ends there is not, a mere point never
        CrossingSweep x = of("seg 0 0 5 0; seg 5 0 9 0; seg 5 1 5 4; seg 5 2 5 2; seg 5 4 9 4; seg 0 9 5 9");
        String[] want = {"0", "0 5", "1 5", "1 2 5", "1 2 5", "1 4 5", "1 4", "4", ""};
        due(18, "EVENTS", x.count(2), want.length);
        for (int k = 0; k < want.length; k++) {
            due(18, "behind " + k, status(x, k), want[k]);
        }
    }

    private static void promise18OfLikeY() {
        // 3 EVENTS of one X: below where 0 to 4 come together, there, and above it
        CrossingSweep x = of("seg -4 -4 4 4; seg -4 4 4 -4; seg -4 0 4 0; seg -4 0 4 0; seg -4 -8 4 8;"
                + "seg 0 -9 0 0; seg 0 0 0 9;"
                + "seg 0 5 0 5; seg -5 -9 5 -9");
        due(18, "below it: as they come to it", status(x, 5), "8 5 4 0 2 3 1");
        due(18, "in it: the one that rises less is ahead, an upright one is the last", status(x, 6), "8 1 2 3 0 4 6");
        due(18, "above it: as they leave it", status(x, 7), "8 1 2 3 0 4 6");
        due(18, "at the END of the upright one", status(x, 8), "8 1 2 3 0 4");
        // they rise unlike by the least part, and are no wider than 1
        CrossingSweep least = of("seg -1 0 1 1; seg 0 0 1 1; seg 1 -5 1 -5; seg 1 1 3 2; seg 1 1 2 2; seg 1 7 4 7");
        due(18, "as they come to it", status(least, 2), "1 0");
        due(18, "as they leave it", status(least, 3), "3 4");
        due(18, "ahead of the one of the greater Y", status(least, 4), "3 4 5");
        // upright ones stand at the Y of the EVENT, of like ones the lesser number is ahead
        CrossingSweep tower = of("seg -1 3 3 3; seg 0 0 0 9; seg 0 1 0 9; seg -1 2 3 4; seg 0 0 0 4; seg -1 6 3 2");
        due(18, "ahead of all", status(tower, 3), "1 4 3 0 5");
        due(18, "one more", status(tower, 4), "1 2 4 3 0 5");
        due(18, "where one has half a Y more", status(tower, 5), "3 1 2 4 0 5");
        due(18, "at the level one", status(tower, 6), "3 0 1 2 4 5");
    }

    private static void promise18ExactToTheLastPart() {
        CrossingSweep x = of(CLOSE);
        String[] want = {"1", "3 1", "1 3", "1 3 2", "0 1 3 2", "0 1 2 3", "1 0 2 3", "1 2 0 3", "1 2 3 0", "2 1 3 0",
            "2 3 0", "2 3", "3", ""};
        for (int k = 0; k < want.length; k++) {
            due(18, "behind " + k, status(x, k), want[k]);
        }
        CrossingSweep bundle = of(CLOSE_BUNDLE);
        String[] close = {"0", "0 2", "0 2 1", "0 1 2", "1 0 2", "1 2 0", "1 0", "1", ""};
        for (int k = 0; k < close.length; k++) {
            due(18, "behind " + k, status(bundle, k), close[k]);
        }
    }

    private static void promise19SegmentsAndEvents() {
        CrossingSweep x = of(PICTURE);
        places(19, "segment", INDEX, 5, s -> x.rank(s, 0));
        places(19, "event", INDEX, 9, k -> x.rank(0, k));
        refused(19, x, INDEX, () -> x.rank(5, 9));
        due(19, "first", x.rank(0, 0), 0);
        due(19, "last", x.rank(1, 2), 2);
        due(19, "it begins there", x.rank(3, 3), 3);
        due(19, "not yet", x.rank(3, 2), NONE);
        due(19, "it ends there", x.rank(3, 4), NONE);
        due(19, "a mere point", x.rank(4, 8), NONE);
        due(19, "behind its point", x.rank(1, 3), 0);
        CrossingSweep all = new CrossingSweep();
        for (int i = 0; i < 24; i++) {
            all.add(-12, 12 - i, 12, i - 12, 0);
        }
        due(19, "the last of 24", all.rank(0, 23), 23);
        due(19, "the first of 24", all.rank(0, 24), 0);
    }

    private static void promise20Events() {
        CrossingSweep x = of(PICTURE);
        places(20, "event", INDEX, 9, k -> x.road(k, 3));
        places(20, "other", INDEX, 9, k -> x.road(3, k));
        refused(20, x, INDEX, () -> x.road(9, 9));
        refused(20, x, INDEX, () -> x.road(-1, -1));
        for (int k = 0; k < 9; k++) {
            due(20, "to itself", x.road(k, k), 0);
        }
        due(20, "one EDGE", x.road(0, 3), 1);
        due(20, "two EDGES", x.road(0, 5), 2);
        due(20, "from a mere point none", x.road(8, 0), NONE);
        due(20, "to a mere point none", x.road(0, 8), NONE);
    }

    private static void promise20FewestEdges() {
        // a long way over one side, a short one over the other
        CrossingSweep x = of("seg 0 0 9 0; seg 0 0 0 5; seg 0 5 9 5; seg 9 0 9 5; seg 3 -1 3 1; seg 6 -1 6 1");
        due(20, "over the three", x.road(0, 8), 3);
        due(20, "the other way about", x.road(8, 0), 3);
        due(20, "from an END beside it", x.road(2, 8), 3);
        due(20, "from beside to beside", x.road(2, 7), 3);
        due(20, "by one of two", x.road(1, 9), 1);
        CrossingSweep one = of("seg 0 0 9 0; seg 20 0 20 0");
        due(20, "of one alone", one.road(0, 1), 1);
        due(20, "and back", one.road(1, 0), 1);
        CrossingSweep along = of("seg 0 0 9 0; seg 3 0 6 0; seg 4 0 5 0");
        due(20, "ENDS of one that lies on it part it", row(6, k -> along.road(k, 5)), "5 4 3 2 1 0");
        CrossingSweep ladder = new CrossingSweep();
        for (int i = 0; i < 24; i++) {
            ladder.add(i, i, i + 1, i + 1, 0);
        }
        due(20, "the longest way", ladder.road(0, 24), 24);
        due(20, "and back", ladder.road(24, 0), 24);
        ladder.cut(12);
        due(20, "then none", ladder.road(0, 24), NONE);
        due(20, "to the gap", ladder.road(0, 12), 12);
    }

    private static String view(CrossingSweep x) {
        int many = x.view(NONE);
        for (int k : new int[] {many, many + 1, -2, LEAST, MOST}) {
            due(21, "without a " + k + "-th", x.view(k), NONE);
        }
        return many + ": " + row(many, k -> x.view(k));
    }

    private static void promise21Views() {
        due(21, "no SEGMENTS", view(new CrossingSweep()), "0: ");
        due(21, "of one X alone", view(of("seg 3 0 3 9; seg 3 3 3 3")), "0: ");
        due(21, "one", view(of("seg 3 0 4 0")), "1: 0");
        due(21, "one that others do not hide", view(of("seg 0 9 8 9; seg 2 0 6 1; seg 3 -3 4 -3; seg 5 -5 5 5")),
                "1: 0");
        due(21, "one seen twice", view(of("seg 0 0 9 0; seg 3 1 6 1")), "3: 0 1 0");
        due(21, "nobody between", view(of("seg 0 0 2 0; seg 4 0 6 0")), "3: 0 -1 1");
        due(21, "nobody, for two in a row", view(of("seg 0 0 2 0; seg 3 7 3 7; seg 4 0 6 0")), "3: 0 -1 2");
        due(21, "nobody first, nobody last", view(of("seg 0 0 0 9; seg 2 0 4 0; seg 6 5 6 9")), "3: -1 1 -1");
        due(21, "nobody alone", view(of("seg 0 0 0 9; seg 6 5 6 9")), "1: -1");
        due(21, "they change places", view(of("seg 0 0 4 4; seg 0 4 4 0")), "2: 1 0");
        due(21, "two EVENTS of one X", view(of("seg 0 0 4 4; seg 0 4 4 0; seg 2 9 6 9")), "2: 1 2");
        due(21, "of two that lie ALONG one another the last of STATUS", view(of("seg 0 0 4 0; seg 2 0 6 0")), "2: 0 1");
        due(21, "of like ones the greatest number", view(of("seg 0 0 4 0; seg 0 0 4 0; seg 0 0 4 0")), "1: 2");
        due(21, "exact to the last part", view(of(CLOSE_BUNDLE)), "6: 0 2 1 2 0 1");
    }

    private static void promise22Tied() {
        CrossingSweep x = of(PICTURE + "; seg 9 9 20 20; seg -3 0 3 0; seg 9 -8 9 -1; seg 50 50 50 50");
        places(22, "segment", INDEX, 9, s -> x.tied(s));
        due(22, "TIED", row(9, s -> x.tied(s)), "110 77 75 71 256 1 15 0 16");
        due(22, "one alone", of("seg 0 0 1 1").tied(0), 0);
        CrossingSweep all = new CrossingSweep();
        for (int i = 0; i < 24; i++) {
            all.add(0, 0, i, 5, 0);
        }
        due(22, "not itself", all.tied(0), (1 << 24) - 2);
        due(22, "the last, not itself", all.tied(23), (1 << 23) - 1);
    }

    private static void promise23Steps() {
        CrossingSweep x = of("seg 0 0 4 0; seg 4 0 8 0; seg 8 0 8 4; seg 6 0 6 9; seg 20 0 20 9; seg 6 9 8 4");
        places(23, "segment", INDEX, 6, s -> x.steps(s, 0));
        places(23, "other", INDEX, 6, s -> x.steps(0, s));
        refused(23, x, INDEX, () -> x.steps(6, 6));
        for (int s = 0; s < 6; s++) {
            due(23, "of one and itself", x.steps(s, s), 0);
        }
        due(23, "from the first", row(6, s -> x.steps(0, s)), "0 1 2 2 -1 3");
        due(23, "to the first", row(6, s -> x.steps(s, 0)), "0 1 2 2 -1 3");
        due(23, "from the one apart", row(6, s -> x.steps(4, s)), "-1 -1 -1 -1 0 -1");
        CrossingSweep chain = new CrossingSweep();
        for (int i = 0; i < 24; i++) {
            chain.add(i, i, i + 1, i + 1, 0);
        }
        due(23, "the most", chain.steps(0, 23), 23);
        due(23, "and back", chain.steps(23, 0), 23);
    }

    private static String hull(CrossingSweep x, String want) {
        int many = x.count(14);
        places(24, "X of " + want, INDEX, many, k -> x.hull(k, false));
        places(24, "Y of " + want, INDEX, many, k -> x.hull(k, true));
        return row(2 * many, i -> x.hull(i / 2, i % 2 == 1));
    }

    private static void hullIs(String want, String text) {
        due(24, text, hull(of(text), want), want);
    }

    private static void promise24EndsOfHull() {
        hullIs("", "");
        hullIs("5 5", "seg 5 5 5 5");
        hullIs("5 5", "seg 5 5 5 5; seg 5 5 5 5");
        hullIs("5 5 5 6", "seg 5 6 5 5");
        hullIs("1 9 2 1", "seg 1 9 2 1; seg 1 9 1 9");
        hullIs("0 0 6 3", "seg 2 1 4 2; seg 0 0 2 1; seg 6 3 4 2");
        hullIs("3 -9 3 9", "seg 3 -9 3 1; seg 3 0 3 9; seg 3 5 3 5");
        hullIs("-9 3 9 3", "seg -9 3 1 3; seg 0 3 9 3");
        hullIs("0 0 4 0 4 4 0 4", "seg 0 0 4 4; seg 0 4 4 0; seg 2 0 2 4; seg 0 2 4 2; seg 2 2 2 2");
        hullIs("0 0 9 1 1 9", "seg 0 0 9 1; seg 1 9 5 5");
        hullIs("0 0 1 0 0 1", "seg 0 0 0 1; seg 1 0 1 0");
        hullIs("0 0 1 0 0 1", "seg 1 0 0 1; seg 0 0 0 0");
        hullIs("0 0 9 0 0 1", "seg 0 0 9 0; seg 0 1 1 0");
        hullIs("-3 0 0 -3 3 0 0 3", "seg -3 0 3 0; seg 0 -3 0 3");
        // of several ENDS of the least X the one of the least Y is the first, wherever it was told
        hullIs("0 0 9 5 9 9 0 5", "seg 0 5 9 5; seg 0 0 9 9");
        hullIs("0 0 9 5 9 9 0 5", "seg 0 0 9 9; seg 0 5 9 5");
        hullIs("0 0 9 0 9 5 0 5", "seg 9 5 0 5; seg 9 0 0 0");
        hullIs("-3 -9 0 -8 0 2 -3 5", "seg -3 5 0 2; seg -3 1 -3 2; seg 0 -8 -3 -9; seg -3 0 -3 0");
        hullIs("0 6 3 -7 9 1 9 2", "seg 0 6 9 1; seg 3 -7 3 -6; seg 0 6 9 2");
        hullIs("0 0 1 -5 2 0", "seg 0 0 1 -5; seg 1 -5 2 0; seg 1 0 1 -4");
        hullIs("-999 -999 999 -999 999 999 -999 999",
                "seg -999 -999 999 999; seg -999 999 999 -999; seg -999 -998 999 998");
        hullIs("-999 -999 999 -999 999 998 998 999 -999 999",
                "seg -999 -999 999 998; seg -999 999 999 -999; seg 998 999 0 0");
    }

    private static void promise25CrossingsOnOne() {
        CrossingSweep x = of("seg 0 0 9 0; seg 3 -3 3 3; seg 6 -3 6 3; seg 0 3 9 3; seg 6 3 6 9; seg 40 40 40 40;"
                + "seg 2 0 7 0");
        places(25, "segment", INDEX, 7, s -> x.on(s, 0));
        due(25, "on the first", row(4, k -> x.on(0, k)), "0 2 -1 -1");
        due(25, "on the second", row(4, k -> x.on(1, k)), "0 1 -1 -1");
        due(25, "on one that lies on it", row(4, k -> x.on(6, k)), "0 2 -1 -1");
        due(25, "in its END", row(4, k -> x.on(4, k)), "3 -1 -1 -1");
        due(25, "on the level one", row(4, k -> x.on(3, k)), "1 3 -1 -1");
        due(25, "none", x.on(5, 0), NONE);
        for (int k : new int[] {-1, -2, 2, 24, LEAST, MOST}) {
            due(25, "without a " + k + "-th", x.on(0, k), NONE);
            refused(25, x, INDEX, () -> x.on(7, k));
        }
    }
}
