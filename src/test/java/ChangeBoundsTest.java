/** A new object, what is done by hand, and THE IMAGE (promises 1, 6 to 11, 32, 33): the boundaries of each. */
public final class ChangeBoundsTest extends Checks {
    private static final int[] NO_COORDINATES = {1000, -1000, 1001, -1001, MOST, LEAST};
    private static final int[] COORDINATES = {999, -999, 998, -998, 0, 1, -1};
    private static final int[] NO_TINTS = {4, -1, 5, -2, MOST, LEAST};

    private ChangeBoundsTest() {
    }

    public static void main(String[] args) {
        promise01NoSegments();
        promise01EachObjectIsItsOwn();
        promise06XAndYFromBoundToBound();
        promise06Tints();
        promise06LeftAndRight();
        promise06AtMost24();
        promise06MerePoints();
        promise07SegmentsThatThereAre();
        promise07NumbersOneLess();
        promise07CrossingsFewer();
        promise08SegmentsThatThereAre();
        promise08EachEndTo999();
        promise08HowManyCrossings();
        promise09TintsAndSegments();
        promise10XIsMinusY();
        promise10EventsThen();
        promise11EachKindIsTakenBack();
        promise11EightAreRemembered();
        promise11NoneIsThere();
        promise11WhatIsNotRemembered();
        promise32Kept();
        promise33NoneWasKept();
        promise33NoneAreRemembered();
        promise33AllButTapeFaultAndImage();
        finish();
    }

    private static void promise01NoSegments() {
        CrossingSweep x = new CrossingSweep();
        int[] counts = {0, 0, 0, 0, 0, 0, 1, 0, 0, NONE, NONE, 0, 0, 0, 0, 0, NONE};
        for (int what = 0; what < counts.length; what++) {
            due(1, "count(" + what + ")", x.count(what), counts[what]);
        }
        Calls.Asked[] ofIndex = {() -> x.cut(0), () -> x.move(0, 0, 0), () -> x.tint(0, 0), () -> x.segment(0, 0),
            () -> x.how(0, 1), () -> x.meet(0, 1, 0), () -> x.along(0, 1, 0), () -> x.crossing(0, 0), () -> x.event(0,
                    0),
            () -> x.status(0, 0), () -> x.status(0, NONE), () -> x.rank(0, 0), () -> x.road(0, 0), () -> x.tied(0),
            () -> x.steps(0, 0), () -> x.hull(0, false), () -> x.hull(0, true), () -> x.on(0, 0)};
        for (int i = 0; i < ofIndex.length; i++) {
            due(1, "the " + i + "-th call", Calls.outcome(ofIndex[i]), INDEX);
        }
        due(1, "view(NONE)", x.view(NONE), 0);
        due(1, "view(0)", x.view(0), NONE);
        due(1, "at(0, 0)", x.at(0, 0), 0);
        due(1, "next down", x.next(0, 0, false), NONE);
        due(1, "next up", x.next(0, 0, true), NONE);
        due(1, "over(0, 0)", x.over(0, 0), 0);
        due(1, "sight", x.sight(-999, -999, 999, 999), NONE);
        due(1, "box", x.box(-999, -999, 999, 999), 0);
        due(1, "tinted", x.tinted(0, 0), 0);
        due(1, "fault", x.fault(), NONE);
        due(1, "back", x.back(), false);
        due(1, "no bytes", x.end(1), false);
        refused(1, x, STATE, x::undo);
        due(1, "an empty text", x.acts(), 0);
        due(1, "turn", x.turn(), 0);
        due(1, "the first is 0", x.add(1, 2, 3, 4, 0), 0);
    }

    private static void promise01EachObjectIsItsOwn() {
        CrossingSweep x = new CrossingSweep();
        CrossingSweep other = new CrossingSweep();
        x.add(0, 0, 5, 5, 1);
        x.image();
        x.feed(0, 0, 0, 0, 0);
        Calls.outcome(x::acts);
        x.feed(0, 0, 0, 0, 0);
        due(1, "SEGMENTS of another one", other.count(0), 0);
        due(1, "what it remembers", other.count(11), 0);
        due(1, "its TAPE", other.end(1), false);
        due(1, "its fault()", other.fault(), NONE);
        due(1, "its IMAGE", other.back(), false);
        due(1, "one that is made behind it", new CrossingSweep().count(2), 0);
    }

    private static int addWith(CrossingSweep x, int place, int number, int tint) {
        int[] n = {5, 5, 5, 5};
        n[place] = number;
        return x.add(n[0], n[1], n[2], n[3], tint);
    }

    private static void promise06XAndYFromBoundToBound() {
        for (int i = 0; i < 4; i++) {
            int place = i;
            CrossingSweep x = new CrossingSweep();
            for (int good : COORDINATES) {
                int number = addWith(x, place, good, 0);
                int end = good < 5 ? 0 : 2;
                due(6, "of " + good, x.segment(number, end + place % 2), good);
                due(6, "the other END", x.segment(number, 2 - end + place % 2), 5);
            }
            for (int bad : NO_COORDINATES) {
                refused(6, x, ARGUMENT, () -> addWith(x, place, bad, 0));
            }
        }
        CrossingSweep x = new CrossingSweep();
        due(6, "all at their bounds", x.add(-999, -999, 999, 999, 0), 0);
        due(6, "all at their bounds", x.add(999, -999, -999, 999, 3), 1);
        due(6, "they are", ends(x), "-999 -999 999 999 0;-999 999 999 -999 3;");
        due(6, "they MEET", x.meet(0, 1, 0), 0);
    }

    private static void promise06Tints() {
        CrossingSweep x = new CrossingSweep();
        for (int good = 0; good <= 3; good++) {
            due(6, "TINT " + good, x.segment(x.add(1, 2, 3, 4, good), 4), good);
        }
        for (int bad : NO_TINTS) {
            refused(6, x, ARGUMENT, () -> x.add(1, 2, 3, 4, bad));
        }
    }

    private static void promise06LeftAndRight() {
        CrossingSweep x = new CrossingSweep();
        x.add(1, 9, 2, -9, 0);
        x.add(2, -9, 1, 9, 0);
        x.add(4, 1, 4, 2, 0);
        x.add(4, 2, 4, 1, 0);
        x.add(-1, 3, 1, 3, 0);
        x.add(1, 3, -1, 3, 0);
        due(6, "LEFT is of the lesser X, of like ones of the lesser Y", ends(x),
                "1 9 2 -9 0;1 9 2 -9 0;4 1 4 2 0;4 1 4 2 0;"
                + "-1 3 1 3 0;-1 3 1 3 0;");
    }

    private static void promise06AtMost24() {
        CrossingSweep x = new CrossingSweep();
        for (int i = 0; i < 24; i++) {
            due(6, "its number", x.add(i, 0, i, 9, i & 3), i);
            due(6, "so many are there", x.count(0), i + 1);
        }
        refused(6, x, STATE, () -> x.add(0, 0, 0, 0, 0));
        refused(6, x, STATE, () -> x.add(999, 999, 999, 999, 3));
        // the one told first is thrown
        refused(6, x, ARGUMENT, () -> x.add(1000, 0, 0, 0, 0));
        refused(6, x, ARGUMENT, () -> x.add(0, 0, 0, -1000, 0));
        refused(6, x, ARGUMENT, () -> x.add(0, 0, 0, 0, 4));
        due(6, "the last stays", x.segment(23, 0), 23);
        x.cut(0);
        due(6, "there are 23", x.add(77, 0, 77, 9, 0), 23);
        refused(6, x, STATE, () -> x.add(0, 0, 0, 0, 0));
        x.undo();
        due(6, "there are 23 again", x.add(78, 0, 78, 9, 0), 23);
        refused(6, x, STATE, () -> x.add(0, 0, 0, 0, 0));
        x.image();
        x.cut(0);
        x.back();
        refused(6, x, STATE, () -> x.add(0, 0, 0, 0, 0));
    }

    private static void promise06MerePoints() {
        CrossingSweep x = new CrossingSweep();
        x.add(3, 4, 3, 4, 2);
        due(6, "KIND", x.segment(0, 5), 0);
        due(6, "it is its LEFT and its RIGHT", ends(x), "3 4 3 4 2;");
        due(6, "one EVENT", x.count(2), 1);
        x.add(3, 4, 3, 5, 2);
        due(6, "no mere point any more", x.segment(1, 5), 1);
    }

    private static void promise07SegmentsThatThereAre() {
        CrossingSweep x = of("seg 0 0 1 1; seg 2 2 3 3; seg 4 4 5 5");
        for (int bad : new int[] {3, 4, -1, -2, 24, 32, MOST, LEAST}) {
            refused(7, x, INDEX, () -> x.cut(bad));
        }
        due(7, "the last", x.cut(2), 0);
        refused(7, x, INDEX, () -> x.cut(2));
        due(7, "the first", x.cut(0), 0);
        refused(7, x, INDEX, () -> x.cut(1));
        due(7, "the only one", x.cut(0), 0);
        refused(7, x, INDEX, () -> x.cut(0));
    }

    private static void promise07NumbersOneLess() {
        CrossingSweep x = of("seg 0 0 1 1; seg 2 2 3 4 tint 1; seg 4 4 5 6 tint 2; seg 7 7 9 7 tint 3");
        x.cut(1);
        due(7, "those ahead stay, those behind are one less", ends(x), "0 0 1 1 0;4 4 5 6 2;7 7 9 7 3;");
        x.cut(2);
        due(7, "the last", ends(x), "0 0 1 1 0;4 4 5 6 2;");
        x.cut(0);
        due(7, "the first", ends(x), "4 4 5 6 2;");
        CrossingSweep full = new CrossingSweep();
        for (int i = 0; i < 24; i++) {
            full.add(i, i, i, i, 0);
        }
        full.cut(0);
        due(7, "of 24", full.count(0), 23);
        due(7, "the last of them", full.segment(22, 0), 23);
    }

    private static void promise07CrossingsFewer() {
        CrossingSweep x = of("seg 0 0 9 0; seg 0 1 9 1; seg 1 -3 1 3; seg 2 -3 2 3; seg 0 -1 2 1; seg 50 50 60 60");
        due(7, "there are", x.count(1), 4);
        due(7, "nobody's", x.cut(5), 0);
        due(7, "two others MEET in each of its own", x.cut(4), 0);
        due(7, "two of its own", x.cut(0), 2);
        due(7, "one of its own", x.cut(2), 1);
        due(7, "the last", x.cut(1), 1);
        due(7, "none", x.cut(0), 0);
    }

    private static void promise08SegmentsThatThereAre() {
        CrossingSweep x = of("seg 0 0 1 1; seg 2 2 3 3");
        for (int bad : new int[] {2, 3, -1, 24, MOST, LEAST}) {
            refused(8, x, INDEX, () -> x.move(bad, 0, 0));
            // the one told first is thrown
            refused(8, x, INDEX, () -> x.move(bad, 1000, 0));
        }
        due(8, "the last", x.move(1, 1, 0), 0);
        due(8, "is moved", ends(x), "0 0 1 1 0;3 2 4 3 0;");
    }

    private static void promise08EachEndTo999() {
        // to the left of X -10, to the right of 30, below -20 (of LEFT and of RIGHT), above 40
        int[][] good = {{969, 0}, {-989, 0}, {0, 959}, {0, -979}, {969, 959}, {-989, -979}, {969, -979}, {-989, 959},
            {0, 0}};
        int[][] bad = {{970, 0}, {-990, 0}, {0, 960}, {0, -980}, {970, 960}, {-990, -980}, {MOST, 0}, {LEAST, 0},
            {0, MOST}, {0, LEAST}, {MOST, MOST}, {LEAST, LEAST}, {1009, 0}, {-1029, 0}, {0, 1019}, {0, -1039}, {1998,
            0},
            {0, -1998}, {MOST - 9, 0}, {0, MOST - 39}};
        for (String text : new String[] {"seg -10 -20 30 40 tint 2", "seg -10 40 30 -20 tint 2"}) {
            for (int[] by : good) {
                CrossingSweep x = of(text);
                due(8, "moved by " + by[0] + " " + by[1], x.move(0, by[0], by[1]), 0);
                due(8, "X of LEFT", x.segment(0, 0), by[0] - 10);
                due(8, "X of RIGHT", x.segment(0, 2), by[0] + 30);
                due(8, "Y of both", x.segment(0, 1) + x.segment(0, 3), 20 + 2 * by[1]);
                due(8, "TINT", x.segment(0, 4), 2);
                due(8, "it is remembered, also by nothing", x.count(11), 1);
            }
            CrossingSweep x = of(text);
            for (int[] by : bad) {
                refused(8, x, ARGUMENT, () -> x.move(0, by[0], by[1]));
            }
        }
        CrossingSweep others = of("seg 0 0 1 1; seg -999 -998 -990 -989; seg 990 998 999 989; seg -5 -5 5 5");
        refused(8, others, ARGUMENT, () -> others.move(1, -1, 0));
        refused(8, others, ARGUMENT, () -> others.move(1, 0, -2));
        refused(8, others, ARGUMENT, () -> others.move(2, 1, 0));
        refused(8, others, ARGUMENT, () -> others.move(2, 0, 2));
        due(8, "not the first's bounds, and across the third", others.move(1, 1989, 1987), 1);
        due(8, "not the first's bounds", others.move(2, -1989, -1988), 0);
        due(8, "not the others' bounds", others.move(0, 998, -999), 0);
        due(8, "each by its own", ends(others), "998 -999 999 -998 0;990 989 999 998 0;-999 -990 -990 -999 0;"
                + "-5 -5 5 5 0;");
        CrossingSweep point = of("seg -999 999 -999 999");
        due(8, "from bound to bound", point.move(0, 1998, -1998), 0);
        due(8, "is there", ends(point), "999 -999 999 -999 0;");
        refused(8, point, ARGUMENT, () -> point.move(0, -1999, 0));
        refused(8, point, ARGUMENT, () -> point.move(0, 0, 1999));
        refused(8, point, ARGUMENT, () -> point.move(0, 1, 0));
        refused(8, point, ARGUMENT, () -> point.move(0, 0, -1));
        due(8, "and back", point.move(0, -1998, 1998), 0);
    }

    private static void promise08HowManyCrossings() {
        CrossingSweep x = of("seg 0 0 9 0; seg 3 1 3 4; seg 5 -4 5 4");
        due(8, "not yet", x.move(1, 3, 0), 1);
        due(8, "its END touches", x.move(1, 0, -1), 2);
        due(8, "three in one point", x.move(1, -1, 0), 1);
        due(8, "through", x.move(1, 2, -1), 2);
        due(8, "past the END", x.move(1, 3, 0), 1);
        due(8, "none", x.move(2, 5, 0), 0);
    }

    private static void promise09TintsAndSegments() {
        CrossingSweep x = of("seg 0 0 1 1 tint 3; seg 2 2 3 3 tint 2");
        int was = 2;
        for (int good : new int[] {0, 3, 3, 1, 2}) {
            due(9, "what it was", x.tint(1, good), was);
            due(9, "what it is", x.segment(1, 4), good);
            was = good;
        }
        due(9, "also of the one that it had it is remembered", x.count(11), 5);
        due(9, "the other one's", x.segment(0, 4), 3);
        for (int bad : NO_TINTS) {
            refused(9, x, ARGUMENT, () -> x.tint(0, bad));
        }
        for (int bad : new int[] {2, 3, -1, 24, MOST, LEAST}) {
            refused(9, x, INDEX, () -> x.tint(bad, 0));
            // the one told first is thrown
            refused(9, x, INDEX, () -> x.tint(bad, 4));
        }
        due(9, "they are", ends(x), "0 0 1 1 3;2 2 3 3 2;");
    }

    private static void promise10XIsMinusY() {
        CrossingSweep x = of("seg -999 999 999 -999 tint 1; seg 3 1 3 5 tint 2; seg 2 7 6 7; seg 4 -8 4 -8;"
                + "seg 1 1 5 2");
        x.turn();
        due(10, "upright ones are level then, LEFT and RIGHT may be others", ends(x), "-999 -999 999 999 1;-5 3 -1 3 2;"
                + "-7 2 -7 6 0;8 4 8 4 0;-2 5 -1 1 0;");
        x.turn();
        due(10, "twice", ends(x), "-999 999 999 -999 1;-3 -5 -3 -1 2;-6 -7 -2 -7 0;-4 8 -4 8 0;-5 -2 -1 -1 0;");
        x.turn();
        x.turn();
        due(10, "four times", ends(x), "-999 999 999 -999 1;3 1 3 5 2;2 7 6 7 0;4 -8 4 -8 0;1 1 5 2 0;");
        due(10, "remembered", x.count(11), 4);
    }

    private static void promise10EventsThen() {
        due(10, "without SEGMENTS", new CrossingSweep().turn(), 0);
        due(10, "of a mere point", of("seg 4 4 4 4").turn(), 1);
        due(10, "ENDS and a CROSSING", of("seg 0 0 4 4; seg 0 4 4 1").turn(), 5);
        due(10, "an END that is a CROSSING, too", of("seg 0 0 4 4; seg 2 2 4 1").turn(), 4);
        due(10, "ENDS of some that lie ALONG one another", of("seg 0 0 4 4; seg 2 2 4 4").turn(), 3);
    }

    private static void promise11EachKindIsTakenBack() {
        CrossingSweep x = of("seg 0 0 4 4 tint 1; seg 0 4 4 0 tint 2; seg 5 5 7 5 tint 3");
        String first = ends(x);
        x.add(9, 9, 8, 8, 3);
        String second = ends(x);
        x.cut(0);
        String third = ends(x);
        x.move(1, 3, -3);
        String fourth = ends(x);
        x.tint(0, 0);
        String fifth = ends(x);
        x.turn();
        String[] want = {fifth, fourth, third, second, first};
        for (int i = 0; i < 5; i++) {
            due(11, "how many are remembered then", x.undo(), 4 - i);
            due(11, "so many", x.count(11), 4 - i);
            due(11, "all is as ahead of it", ends(x), want[i]);
        }
        due(11, "CROSSINGS, too", x.count(1), 1);
        refused(11, x, STATE, x::undo);
    }

    private static void promise11EightAreRemembered() {
        CrossingSweep x = new CrossingSweep();
        for (int i = 1; i <= 7; i++) {
            x.add(i, i, i, i, 0);
            due(11, "remembered", x.count(11), i);
        }
        x.add(8, 8, 8, 8, 0);
        due(11, "the eighth", x.count(11), 8);
        x.add(9, 9, 9, 9, 0);
        due(11, "not the ninth", x.count(11), 8);
        for (int i = 7; i >= 0; i--) {
            due(11, "taken back", x.undo(), i);
            due(11, "SEGMENTS", x.count(0), i + 1);
        }
        refused(11, x, STATE, x::undo);
        due(11, "the first of the nine stays", ends(x), "1 1 1 1 0;");
        // some taken back, and some more told behind that
        for (int i = 0; i < 20; i++) {
            x.tint(0, i & 3);
        }
        due(11, "three are taken back", x.undo() + x.undo() + x.undo(), 7 + 6 + 5);
        due(11, "the seventeenth", x.segment(0, 4), 16 & 3);
        for (int i = 0; i < 4; i++) {
            x.move(0, 1, 0);
        }
        due(11, "eight again", x.count(11), 8);
        for (int i = 7; i >= 0; i--) {
            due(11, "taken back", x.undo(), i);
            due(11, "X", x.segment(0, 0), i >= 4 ? i - 3 : 1);
            due(11, "TINT", x.segment(0, 4), i >= 4 ? 0 : i & 3);
        }
        refused(11, x, STATE, x::undo);
        due(11, "a ninth is not remembered", x.segment(0, 4), 0);
    }

    private static void promise11NoneIsThere() {
        CrossingSweep x = new CrossingSweep();
        refused(11, x, STATE, x::undo);
        x.turn();
        due(11, "a turn of none, too", x.undo(), 0);
        refused(11, x, STATE, x::undo);
        x.add(0, 0, 1, 1, 0);
        x.undo();
        refused(11, x, STATE, x::undo);
        due(11, "what was taken back is not done again", x.count(0), 0);
    }

    private static void promise11WhatIsNotRemembered() {
        CrossingSweep x = of("seg 0 0 4 4; seg 0 4 4 0");
        x.turn();
        Calls.outcome(() -> x.add(1000, 0, 0, 0, 0));
        Calls.outcome(() -> x.cut(2));
        Calls.outcome(() -> x.move(0, 999, 999));
        Calls.outcome(() -> x.tint(0, 4));
        x.image();
        put(x, "turn;");
        Calls.outcome(x::acts);
        x.count(1);
        x.crossing(0, 0);
        due(11, "refused calls, an image, a wrong text, what is asked", x.count(11), 1);
        due(11, "the turn", x.undo(), 0);
        due(11, "as ahead of it", ends(x), "0 0 4 4 0;0 4 4 0 0;");
        CrossingSweep full = new CrossingSweep();
        for (int i = 0; i < 24; i++) {
            full.add(i, i, i, i, 0);
        }
        for (int i = 0; i < 8; i++) {
            Calls.outcome(() -> full.add(0, 0, 0, 0, 0));
        }
        due(11, "a 25th", full.undo(), 7);
        due(11, "the 24th", full.count(0), 23);
    }

    private static void promise32Kept() {
        CrossingSweep x = of("seg 0 0 4 4 tint 3; seg 0 4 4 0");
        x.turn();
        x.image();
        due(32, "nothing else happens", ends(x) + x.count(11), "-4 4 0 0 3;-4 0 0 4 0;1");
        x.cut(0);
        x.add(9, 9, 9, 9, 1);
        tell(x, "cut 0;cut 0");
        due(33, "to what was kept", x.back(), true);
        due(33, "SEGMENTS", ends(x), "-4 4 0 0 3;-4 0 0 4 0;");
        due(33, "CROSSINGS", x.count(1), 1);
        x.cut(0);
        x.image();
        x.cut(0);
        due(32, "one alone: the latest", x.back(), true);
        due(32, "is kept", ends(x), "-4 0 0 4 0;");
        CrossingSweep empty = new CrossingSweep();
        empty.image();
        empty.add(1, 1, 2, 2, 0);
        due(32, "of no SEGMENTS", empty.back(), true);
        due(32, "it is kept, too", empty.count(0), 0);
        CrossingSweep full = new CrossingSweep();
        for (int i = 0; i < 24; i++) {
            full.add(i, i, i, -i, i & 3);
        }
        String all = ends(full);
        full.image();
        full.turn();
        full.cut(5);
        due(32, "of 24", full.back(), true);
        due(32, "all of them", ends(full), all);
    }

    private static void promise33NoneWasKept() {
        CrossingSweep x = of("seg 0 0 4 4; seg 0 4 4 0");
        x.turn();
        put(x, "cut 0");
        due(33, "none was kept", x.back(), false);
        due(33, "nothing happens to the SEGMENTS", ends(x), "-4 4 0 0 0;-4 0 0 4 0;");
        due(33, "to what is remembered", x.count(11), 1);
        due(33, "to the TAPE", x.acts(), 1);
        due(33, "still none", x.back(), false);
    }

    private static void promise33NoneAreRemembered() {
        CrossingSweep x = of("seg 0 0 4 4; seg 0 4 4 0");
        x.turn();
        x.image();
        x.tint(0, 3);
        due(33, "two are", x.count(11), 2);
        x.back();
        due(33, "none are", x.count(11), 0);
        refused(11, x, STATE, x::undo);
        x.tint(1, 2);
        due(33, "one is", x.undo(), 0);
        due(33, "as ahead of it", ends(x), "-4 4 0 0 0;-4 0 0 4 0;");
        x.tint(1, 2);
        x.back();
        refused(11, x, STATE, x::undo);
    }

    private static void promise33AllButTapeFaultAndImage() {
        CrossingSweep x = of("seg 0 0 4 4");
        x.image();
        wrongAt(x, 5, "turn;x");
        put(x, "turn; cut 0");
        due(33, "back", x.back(), true);
        due(33, "fault() stays", x.fault(), 5);
        due(33, "the TAPE stays: no more", x.end(12), false);
        due(33, "and no less", x.end(11), true);
        due(33, "as it was", x.acts(), 2);
        due(33, "all is gone", x.count(0), 0);
        due(33, "THE IMAGE stays", x.back(), true);
        due(33, "again", ends(x), "0 0 4 4 0;");
        due(33, "fault() stays", x.fault(), NONE);
        x.turn();
        due(33, "and again", x.back(), true);
        due(33, "as it was", ends(x), "0 0 4 4 0;");
    }
}
