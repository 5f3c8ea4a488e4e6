/** What is asked of points, of boxes, of TINTS and of all (promises 26 to 31, 34): the boundaries of each. */
public final class PlaceBoundsTest extends Checks {
    private static final int[] NO_COORDINATES = {1000, -1000, 1001, -1001, MOST, LEAST};
    private static final int[] COORDINATES = {999, -999, 998, -998, 0};

    /** One call of four numbers. */
    private interface OfFour {
        long answer(int a, int b, int c, int d);
    }

    private PlaceBoundsTest() {
    }

    public static void main(String[] args) {
        coordinates(26, 2, (x, y, c, d) -> all().at(x, y));
        coordinates(27, 2, (x, y, c, d) -> all().next(x, y, false));
        coordinates(27, 2, (x, y, c, d) -> all().next(x, y, true));
        coordinates(28, 2, (x, y, c, d) -> all().over(x, y));
        coordinates(29, 4, (x, y, toX, toY) -> all().sight(x, y, toX, toY));
        promise26BothEndsCount();
        promise27BelowAndAbove();
        promise27TheNearest();
        promise28FromLeftToRight();
        promise29BothCount();
        promise29TheNearest();
        promise30CoordinatesInOrder();
        promise30AllSidesCount();
        promise31Tints();
        promise31OneOrTwoOfThem();
        promise34Whats();
        promise34WithoutAnything();
        promise34OfOne();
        promise34PairsAndEdges();
        promise34PartsAndFaces();
        promise34BundlesAndStatuses();
        promise34Blame();
        promise34Remembered();
        promise34AsManyAsThereCanBe();
        finish();
    }

    private static CrossingSweep all() {
        return of("seg -999 -999 999 999; seg -999 999 999 -999");
    }

    /** That each of the first numbers may be from -999 to 999. */
    private static void coordinates(int promise, int many, OfFour call) {
        for (int place = 0; place < many; place++) {
            for (int good : COORDINATES) {
                int[] n = {0, 0, 0, 0};
                n[place] = good;
                String got = Calls.outcome(() -> call.answer(n[0], n[1], n[2], n[3]));
                due(promise, good + " as the " + place + "-th number threw", got.endsWith("Exception"), false);
            }
            for (int bad : NO_COORDINATES) {
                int[] n = {0, 0, 0, 0};
                n[place] = bad;
                due(promise, bad + " as the " + place + "-th number", Calls.outcome(() -> call.answer(n[0], n[1], n[2],
                        n[3])),
                        ARGUMENT);
            }
        }
    }

    private static void promise26BothEndsCount() {
        CrossingSweep x = of("seg -4 2 4 -2; seg 4 -2 4 3; seg 2 -1 2 -1; seg -4 2 6 2; seg 999 999 999 999;"
                + "seg -999 -999 -999 999");
        int[][] want = {{-4, 2, 9}, {4, -2, 3}, {0, 0, 1}, {2, -1, 5}, {-2, 1, 1}, {4, 3, 2}, {4, 4, 0}, {4, -3, 0},
            {4, 2, 10},
            {-5, 2, 0}, {6, 2, 8}, {7, 2, 0}, {6, -3, 0}, {-6, 3, 0}, {1, 0, 0}, {1, -1, 0}, {999, 999, 16}, {999, 998,
            0},
            {998, 999, 0}, {-999, -999, 32}, {-999, 999, 32}, {-998, 999, 0}};
        for (int[] w : want) {
            due(26, "at " + w[0] + " " + w[1], x.at(w[0], w[1]), w[2]);
        }
        CrossingSweep full = new CrossingSweep();
        for (int i = 0; i < 24; i++) {
            full.add(0, 0, i, 1, 0);
        }
        due(26, "24 of them", full.at(0, 0), (1 << 24) - 1);
        due(26, "the last of them", full.at(23, 1), 1 << 23);
    }

    private static void promise27BelowAndAbove() {
        CrossingSweep x = of("seg 0 0 9 0; seg 3 2 3 6; seg 5 4 5 4; seg 7 5 12 5");
        int[][] want = {{0, 1, 0, NONE}, {0, 0, NONE, NONE}, {0, -1, NONE, 0}, {-1, 1, NONE, NONE}, {9, 1, 0, 3}, {10,
            1, NONE, 3},
            {3, 7, 1, NONE}, {3, 6, 0, NONE}, {3, 4, 0, NONE}, {3, 2, 0, NONE}, {3, 1, 0, 1}, {3, 0, NONE, 1}, {5, 5,
            2, NONE},
            {5, 4, 0, NONE}, {5, 3, 0, 2}, {12, 4, NONE, 3}, {12, 5, NONE, NONE}, {12, 6, 3, NONE}, {13, 6, NONE, NONE},
            {7, 999, 3, NONE}, {7, -999, NONE, 0}, {6, 999, 0, NONE}};
        for (int[] w : want) {
            due(27, "down from " + w[0] + " " + w[1], x.next(w[0], w[1], false), w[2]);
            due(27, "up from " + w[0] + " " + w[1], x.next(w[0], w[1], true), w[3]);
        }
        CrossingSweep far = of("seg -999 -999 999 -999; seg -999 999 999 999");
        due(27, "as far as can be", far.next(999, 999, false), 0);
        due(27, "as far as can be", far.next(-999, -999, true), 1);
    }

    private static void promise27TheNearest() {
        CrossingSweep x = of("seg 0 0 9 9; seg 0 8 8 0; seg 4 1 4 3; seg 2 4 6 4; seg 4 6 4 6; seg 3 5 5 7;"
                + "seg 4 6 4 9");
        due(27, "of three in a point the least", x.next(4, 5, false), 0);
        due(27, "of three in a point the least", x.next(4, 5, true), 4);
        due(27, "none of those that have it", x.next(4, 4, false), 2);
        due(27, "none of those that have it, up", x.next(4, 4, true), 4);
        // 1 over 1998 and 2 over 3995: unlike by less than a millionth
        CrossingSweep close = of("seg -999 0 999 1; seg -998 0 999 1; seg -999 0 999 1");
        due(27, "the nearest above by parts", close.next(0, 0, true), 1);
        due(27, "the nearest below by parts", close.next(0, 1, false), 0);
        CrossingSweep about = of("seg -998 0 999 1; seg -999 0 999 1");
        due(27, "the nearest above by parts", about.next(0, 0, true), 0);
        due(27, "the nearest below by parts", about.next(0, 1, false), 1);
        CrossingSweep upright = of("seg 5 10 5 20; seg 0 6 9 6; seg 5 -10 5 -20; seg 0 -6 9 -6");
        due(27, "an upright one by its nearer END", upright.next(5, 0, true), 1);
        due(27, "an upright one by its nearer END", upright.next(5, 0, false), 3);
        due(27, "it is the nearest", upright.next(5, 7, true), 0);
        due(27, "it is the nearest", upright.next(5, -7, false), 2);
        CrossingSweep farther = of("seg 5 -20 5 -5; seg 0 -10 9 -10; seg 5 5 5 20; seg 0 10 9 10");
        due(27, "its nearer END, though its farther one is beyond another", farther.next(5, 0, false), 0);
        due(27, "its nearer END, though its farther one is beyond another", farther.next(5, 0, true), 2);
        farther.turn();
        farther.turn();
        due(27, "about", farther.next(-5, 0, true), 0);
        due(27, "about", farther.next(-5, 0, false), 2);
        due(27, "of like far ones the least", of("seg 5 10 5 20; seg 0 10 9 10").next(5, 0, true), 0);
        due(27, "of like far ones the least", of("seg 0 10 9 10; seg 5 10 5 20").next(5, 0, true), 0);
        CrossingSweep half = of("seg 0 0 2 1; seg 0 1 4 -1");
        due(27, "less than one away", half.next(1, 0, true), 0);
        due(27, "less than one away", half.next(1, 1, false), 0);
    }

    private static void promise28FromLeftToRight() {
        CrossingSweep x = of("seg 0 4 8 4; seg 0 0 8 8; seg 3 -9 3 99; seg 3 50 3 50; seg -999 9 999 9");
        int[][] want = {{-1, 3, 1}, {0, 3, 2}, {0, 4, 1}, {0, -1, 3}, {0, 0, 2}, {7, 3, 3}, {7, 4, 2}, {7, 6, 2}, {7,
            7, 1}, {8, 3, 1},
            {8, -9, 1}, {3, 2, 3}, {3, 3, 2}, {3, 9, 0}, {3, 8, 1}, {-999, 8, 1}, {-999, 9, 0}, {998, 8, 1}, {999, 8,
            0},
            {999, -999, 0}};
        for (int[] w : want) {
            due(28, "over " + w[0] + " " + w[1], x.over(w[0], w[1]), w[2]);
        }
        CrossingSweep parts = of("seg -999 0 999 1");
        due(28, "greater by one part", parts.over(-998, 0), 1);
        due(28, "lesser by one part", parts.over(998, 1), 0);
        CrossingSweep full = new CrossingSweep();
        for (int i = 0; i < 24; i++) {
            full.add(0, i, 1, i, 0);
        }
        due(28, "24 of them", full.over(0, -1), 24);
        due(28, "all but one", full.over(0, 0), 23);
    }

    private static void promise29BothCount() {
        CrossingSweep x = of("seg 0 0 0 4; seg 9 0 9 4; seg 4 4 4 4; seg 6 8 8 8; seg 2 6 2 9");
        int[][] want = {{0, 2, 3, 2, 0}, {1, 2, 3, 2, NONE}, {1, 2, 8, 2, NONE}, {1, 2, 9, 2, 1}, {8, 2, 0, 2, 0}, {8,
            2, 1, 2, NONE},
            {9, 4, 0, 4, 1}, {8, 4, 0, 4, 2}, {3, 4, 0, 4, 0}, {4, 4, 4, 4, 2}, {4, 5, 4, 5, NONE}, {4, 5, 4, 4, 2},
            {4, 3, 4, 4, 2},
            {4, 3, 4, 3, NONE}, {5, 8, 5, 8, NONE}, {5, 8, 6, 8, 3}, {7, 8, 7, 8, 3}, {9, 8, 8, 8, 3}, {9, 8, 9, 9,
            NONE},
            {2, 5, 2, 999, 4}, {2, 999, 2, 10, NONE}, {2, 999, 2, 9, 4}, {2, 7, 2, 8, 4}, {0, 5, 0, 999, NONE}, {0, 5,
            0, 4, 0},
            {-1, 1, 1, -1, 0}, {-1, 0, 1, -1, NONE}};
        for (int[] w : want) {
            due(29, "from " + w[0] + " " + w[1] + " to " + w[2] + " " + w[3], x.sight(w[0], w[1], w[2], w[3]), w[4]);
        }
    }

    private static void promise29TheNearest() {
        CrossingSweep x = of("seg 0 0 9 0; seg 3 -1 3 1; seg 6 -1 6 1; seg 3 0 3 0; seg 12 0 15 0; seg -3 -1 -3 1");
        due(29, "in it: of several with that point the least", x.sight(3, 0, 20, 0), 0);
        due(29, "from ahead of it", x.sight(-1, 0, 20, 0), 0);
        due(29, "one in its way", x.sight(-4, 0, 20, 0), 5);
        due(29, "from behind it", x.sight(11, 0, -20, 0), 0);
        due(29, "to the other side", x.sight(11, 0, 20, 0), 4);
        due(29, "the nearer END of one ALONG it", x.sight(16, 0, -20, 0), 4);
        due(29, "in a point of three the least", x.sight(3, 5, 3, -5), 1);
        due(29, "slanted to where four meet", x.sight(2, 1, 5, -2), 0);
        due(29, "upward", x.sight(6, -5, 6, 5), 2);
        // the two cross the stretch in points that are apart by less than a hundred thousand millionth
        CrossingSweep close = of("seg -931 -881 958 936; seg -967 -956 856 887");
        due(29, "the nearest to the last part", close.sight(-999, 914, 575, -999), 1);
        due(29, "and from the other end", close.sight(575, -999, -999, 914), 0);
        for (int up : new int[] {1, -1}) {
            CrossingSweep slanted = new CrossingSweep();
            slanted.add(6, 6 * up, 8, 8 * up, 0);
            slanted.add(3, 3 * up, 5, 5 * up, 0);
            slanted.add(2, 3 * up, 5, 0, 0);
            due(29, "slanted, one across ahead of two ALONG it", slanted.sight(0, 0, 9, 9 * up), 2);
            due(29, "the one ALONG it ahead", slanted.sight(9, 9 * up, 0, 0), 0);
            slanted.cut(2);
            due(29, "the nearer one of two ALONG it", slanted.sight(0, 0, 9, 9 * up), 1);
            due(29, "from between", slanted.sight(4, 4 * up, 9, 9 * up), 1);
            slanted.add(4, 5 * up, 5, 4 * up, 0);
            due(29, "one across in it", slanted.sight(0, 0, 9, 9 * up), 1);
            slanted.move(1, 1, up);
            due(29, "one across behind its END", slanted.sight(0, 0, 9, 9 * up), 1);
            slanted.move(1, 1, up);
            due(29, "one across ahead of it", slanted.sight(0, 0, 9, 9 * up), 2);
            due(29, "not from behind", slanted.sight(9, 9 * up, 0, 0), 0);
        }
        due(29, "across all", all().sight(-999, 0, 999, 0), 0);
        due(29, "across all, about", all().sight(999, -998, -999, -998), 1);
    }

    private static void promise30CoordinatesInOrder() {
        CrossingSweep x = all();
        for (int good : COORDINATES) {
            due(30, "X alike", x.box(good, -999, good, 999), 3);
            due(30, "Y alike", x.box(-999, good, 999, good), 3);
            due(30, "both alike", x.box(good, good, good, good), good == 0 ? 3 : 1);
        }
        for (int bad : NO_COORDINATES) {
            refused(30, x, ARGUMENT, () -> x.box(bad, 0, 999, 999));
            refused(30, x, ARGUMENT, () -> x.box(0, bad, 999, 999));
            refused(30, x, ARGUMENT, () -> x.box(-999, -999, bad, 0));
            refused(30, x, ARGUMENT, () -> x.box(-999, -999, 0, bad));
        }
        refused(30, x, ARGUMENT, () -> x.box(1, 0, 0, 0));
        refused(30, x, ARGUMENT, () -> x.box(0, 1, 0, 0));
        refused(30, x, ARGUMENT, () -> x.box(1, 1, 0, 0));
        refused(30, x, ARGUMENT, () -> x.box(999, -999, -999, 999));
        refused(30, x, ARGUMENT, () -> x.box(-999, 999, 999, -999));
    }

    private static void promise30AllSidesCount() {
        CrossingSweep x = of("seg -5 0 0 0; seg 9 7 20 7; seg 4 -9 4 0; seg 4 7 4 20; seg 3 3 3 3; seg 9 0 9 0;"
                + "seg -2 2 2 -2;"
                + "seg 8 8 10 6");
        due(30, "each side, each corner touched, inside", x.box(0, 0, 9, 7), 255);
        due(30, "one to the right", x.box(1, 0, 9, 7), 255 - 1 - 64);
        due(30, "one up", x.box(0, 1, 9, 7), 255 - 1 - 4 - 32 - 64);
        due(30, "one less to the right", x.box(0, 0, 8, 7), 255 - 2 - 32 - 128);
        due(30, "one less up", x.box(0, 0, 9, 6), 255 - 2 - 8 - 128);
        due(30, "around one alone", x.box(3, 3, 3, 3), 16);
        due(30, "beside it", x.box(1, 1, 2, 6), 0);
        CrossingSweep past = of("seg -3 2 2 -4; seg 7 -3 12 3; seg -3 5 3 11; seg 6 11 12 4; seg -9 1 0 -8;"
                + "seg 8 9 11 5");
        due(30, "past each corner, with X and Y between its sides", past.box(0, 0, 9, 7), 0);
        CrossingSweep in = of("seg -3 2 3 -2; seg 7 -2 11 2; seg -3 4 3 10; seg 6 10 12 4; seg -3 3 3 -2;"
                + "seg 7 -2 11 3");
        due(30, "through each corner, and close to it", in.box(0, 0, 9, 7), 63);
        CrossingSweep least = of("seg -2 1 1 -1; seg 8 -1 11 1; seg -2 6 1 8; seg 8 8 11 6");
        due(30, "past each corner by the least part", least.box(0, 0, 9, 7), 0);
        due(30, "past a point by the least part", least.box(0, 0, 0, 0), 0);
        due(30, "past a point by the least part", least.box(9, 0, 9, 0), 0);
        due(30, "past a point by the least part", least.box(0, 7, 0, 7), 0);
        due(30, "past a point by the least part", least.box(9, 7, 9, 7), 0);
        due(30, "the point beside it", least.box(1, -1, 1, -1), 1);
        CrossingSweep across = of("seg -9 3 20 4; seg 4 -9 5 20; seg -9 -9 20 20; seg -9 20 20 -9;"
                + "seg -999 -999 999 999");
        due(30, "across it with no END in it", across.box(0, 0, 9, 9), 31);
        due(30, "none", across.box(-999, 900, -990, 999), 0);
        due(30, "a corner of all", across.box(999, 999, 999, 999), 16);
    }

    private static void promise31Tints() {
        CrossingSweep x = of("seg 0 0 9 9; seg 0 9 9 0 tint 3");
        for (int good = 0; good <= 3; good++) {
            due(31, "0 and " + good, x.tinted(0, good), good == 3 ? 1 : 0);
            due(31, good + " and 0", x.tinted(good, 0), good == 3 ? 1 : 0);
            due(31, good + " twice", x.tinted(good, good), 0);
        }
        for (int bad : new int[] {4, -1, 5, -2, 24, MOST, LEAST}) {
            refused(31, x, ARGUMENT, () -> x.tinted(bad, 0));
            refused(31, x, ARGUMENT, () -> x.tinted(0, bad));
            refused(31, x, ARGUMENT, () -> x.tinted(bad, bad));
        }
    }

    private static void promise31OneOrTwoOfThem() {
        CrossingSweep x = of("seg 0 0 20 0 tint 1; seg 2 -1 2 1 tint 1; seg 4 -1 4 1 tint 2; seg 6 -1 6 1 tint 2;"
                + "seg 6 0 6 5 tint 2;"
                + "seg 8 -1 8 1; seg 8 0 9 9; seg 8 0 7 9 tint 2; seg 10 -5 10 -5 tint 3");
        int[][] want = {{0, 1, 1}, {0, 2, 1}, {0, 0, 1}, {1, 1, 1}, {1, 2, 3}, {2, 2, 1}, {3, 3, 0}, {0, 3, 0}, {1, 3,
            0}};
        for (int[] w : want) {
            due(31, "of " + w[0] + " and " + w[1], x.tinted(w[0], w[1]), w[2]);
            due(31, "of " + w[1] + " and " + w[0], x.tinted(w[1], w[0]), w[2]);
        }
        // the two of one TINT lie ALONG one another, a third one makes the CROSSING
        CrossingSweep along = of("seg 0 0 9 0 tint 3; seg 2 0 12 0 tint 3; seg 5 0 5 5");
        due(31, "two of its BUNDLE, though they do not MEET", along.tinted(3, 3), 1);
        along.cut(2);
        due(31, "without it there is none", along.tinted(3, 3), 0);
    }

    private static void promise34Whats() {
        CrossingSweep x = of("seg 0 0 4 4; seg 0 4 4 0; seg 2 2 9 2");
        int[] want = {3, 1, 6, 0, 5, 1, 1, 3, 3, 2, 0, 0, 6, 1, 5, 3};
        for (int what = 0; what < 16; what++) {
            due(34, "count(" + what + ")", x.count(what), want[what]);
        }
        for (int what : new int[] {16, 17, -1, -2, 24, MOST, LEAST}) {
            due(34, "another what: " + what, x.count(what), NONE);
        }
    }

    private static void countIs(int what, int want, String text) {
        due(34, "count(" + what + ") of " + text, of(text).count(what), want);
    }

    private static void promise34WithoutAnything() {
        CrossingSweep x = new CrossingSweep();
        int[] want = {0, 0, 0, 0, 0, 0, 1, 0, 0, NONE, NONE, 0, 0, 0, 0, 0};
        for (int what = 0; what < 16; what++) {
            due(34, "count(" + what + ") of none", x.count(what), want[what]);
        }
        x.add(1, 1, 2, 2, 0);
        x.count(4);
        x.cut(0);
        want[11] = 2;
        for (int what = 0; what < 16; what++) {
            due(34, "count(" + what + ") of none any more", x.count(what), want[what]);
        }
    }

    private static void promise34OfOne() {
        int[] ofPoint = {1, 0, 1, 0, 0, 1, 1, 0, 0, 0, 0, 0, 0, 0, 1, 0};
        int[] ofOther = {1, 0, 2, 0, 1, 1, 1, 0, 1, 0, 0, 0, 2, 0, 2, 0};
        for (int what = 0; what < 16; what++) {
            countIs(what, ofPoint[what], "seg 3 3 3 3");
            countIs(what, ofOther[what], "seg 3 3 3 4");
            countIs(what, ofOther[what], "seg 3 3 4 3");
        }
    }

    private static void promise34PairsAndEdges() {
        countIs(3, 3, "seg 0 0 9 0; seg 2 0 12 0; seg 8 0 10 0; seg 12 0 14 0");
        countIs(15, 1, "seg 0 0 9 0; seg 2 0 12 0; seg 8 0 10 0; seg 12 0 14 0");
        countIs(4, 6, "seg 0 0 9 0; seg 2 0 12 0; seg 8 0 10 0; seg 12 0 14 0");
        countIs(4, 1, "seg 0 0 9 0; seg 0 0 9 0; seg 9 0 0 0");
        countIs(3, 3, "seg 0 0 9 0; seg 0 0 9 0; seg 9 0 0 0");
        countIs(15, 0, "seg 0 0 9 0; seg 0 0 9 0; seg 9 0 0 0");
        countIs(15, 3, "seg 1 1 1 1; seg 1 1 1 1; seg 1 1 1 1");
        countIs(4, 0, "seg 1 1 1 1; seg 1 1 1 1; seg 1 1 1 1");
        countIs(1, 1, "seg 1 1 1 1; seg 1 1 1 1; seg 1 1 1 1");
        countIs(2, 1, "seg 1 1 1 1; seg 1 1 1 1; seg 1 1 1 1");
        countIs(12, 0, "seg 0 0 4 0; seg 4 0 4 4; seg 4 4 0 0");
        countIs(12, 2, "seg 0 0 4 0; seg 4 0 4 4; seg 4 4 0 0; seg 2 0 4 4");
        countIs(13, 0, "seg 0 0 4 4; seg 2 2 4 0; seg 2 2 2 9");
        countIs(13, 2, "seg 0 0 4 4; seg 0 4 4 0; seg 10 0 14 4; seg 10 4 14 0; seg 12 2 12 2");
    }

    private static void promise34PartsAndFaces() {
        countIs(5, 2, "seg 0 0 4 0; seg 0 1 4 1");
        countIs(5, 1, "seg 0 0 4 0; seg 4 0 4 1");
        countIs(5, 1, "seg 0 0 4 0; seg 9 0 12 0; seg 3 0 10 0");
        countIs(5, 2, "seg 0 0 4 0; seg 9 9 9 9; seg 4 0 4 1; seg 9 9 20 9; seg 4 1 0 1");
        countIs(5, 3, "seg 0 0 4 0; seg 9 9 9 9; seg 4 0 4 1; seg 30 30 30 30; seg 9 9 20 9; seg 4 1 0 1");
        countIs(6, 1, "seg 0 0 4 0; seg 0 1 4 1");
        countIs(6, 2, "seg 0 0 4 0; seg 4 0 4 4; seg 4 4 0 0");
        countIs(6, 3, "seg 0 0 4 0; seg 4 0 4 4; seg 4 4 0 0; seg 3 -1 3 9");
        countIs(6, 3, "seg 0 0 9 0; seg 9 0 9 9; seg 9 9 0 0; seg 5 1 7 1; seg 7 1 7 4; seg 7 4 5 1");
        countIs(5, 2, "seg 0 0 9 0; seg 9 0 9 9; seg 9 9 0 0; seg 5 1 7 1; seg 7 1 7 4; seg 7 4 5 1");
        StringBuilder apart = new StringBuilder("seg 0 0 0 0");
        for (int i = 1; i < 14; i++) {
            apart.append(";seg ").append(i).append(" 0 ").append(i).append(" 0");
        }
        CrossingSweep x = of(apart.toString());
        for (int i = 14; i < 24; i++) {
            x.add(i, 0, i, 0, 0);
        }
        due(34, "PARTS of 24", x.count(5), 24);
        due(34, "FACES", x.count(6), 1);
        due(34, "ENDS of HULL", x.count(14), 2);
    }

    private static void promise34BundlesAndStatuses() {
        countIs(7, 0, "seg 0 0 4 0; seg 0 0 4 0; seg 2 0 6 0");
        countIs(7, 2, "seg 0 0 4 0; seg 4 0 6 0");
        countIs(7, 4, "seg 0 0 4 0; seg 0 0 4 0; seg 2 0 6 0; seg 3 0 3 5; seg 5 0 5 5");
        countIs(8, 0, "seg 1 1 1 1; seg 0 0 0 0");
        countIs(9, 0, "seg 1 1 1 1; seg 0 0 0 0");
        countIs(8, 1, "seg 1 1 1 1; seg 5 0 5 1; seg 0 0 0 0");
        countIs(9, 2, "seg 1 1 1 1; seg 5 0 5 1; seg 0 0 0 0");
        countIs(8, 1, "seg 0 0 1 0; seg 1 0 2 0");
        countIs(9, 0, "seg 0 0 1 0; seg 1 0 2 0");
        countIs(8, 2, "seg 0 0 1 0; seg 1 0 3 0; seg 1 4 3 4");
        countIs(8, 3, "seg 0 0 1 0; seg 1 -4 3 -4; seg 0 4 3 4");
        countIs(9, 2, "seg 0 0 1 0; seg 1 -4 3 -4; seg 0 4 3 4");
        countIs(8, 2, "seg 0 0 1 0; seg 1 4 3 4; seg 0 -4 3 -4");
        countIs(9, 1, "seg 0 0 1 0; seg 1 4 3 4; seg 0 -4 3 -4");
        CrossingSweep x = new CrossingSweep();
        for (int i = 0; i < 24; i++) {
            x.add(i, 0, 24 + i, 0, 0);
        }
        due(34, "24 in STATUS", x.count(8), 24);
        due(34, "behind the 24th EVENT", x.count(9), 23);
        x.move(23, 1, 0);
        due(34, "all but one", x.count(8), 23);
        due(34, "the first with so many", x.count(9), 22);
    }

    private static void promise34Blame() {
        countIs(10, 0, "seg 5 5 5 5");
        countIs(10, 0, "seg 0 0 4 0; seg 0 0 4 0; seg 1 0 3 0");
        countIs(10, 0, "seg 0 0 4 4; seg 0 4 4 0");
        countIs(10, 1, "seg 9 9 9 9; seg 0 0 4 4; seg 0 4 4 0");
        countIs(10, 0, "seg 0 0 4 4; seg 0 4 4 0; seg 2 0 2 4");
        countIs(10, 3, "seg 0 0 4 4; seg 0 4 4 0; seg 2 0 2 4; seg 9 0 9 4; seg 9 1 12 1");
        countIs(10, 4, "seg 0 0 4 4; seg 0 4 4 0; seg 2 0 2 4; seg 9 0 9 4; seg 8 1 15 1; seg 14 0 14 4");
        // a CROSSING stays, if two others MEET in it, and goes, if those that are left lie ALONG one another
        countIs(10, 2, "seg 0 0 9 0; seg 4 0 12 0; seg 6 -3 6 3");
        CrossingSweep full = new CrossingSweep();
        for (int i = 0; i < 23; i++) {
            full.add(0, i, 50, i, 0);
        }
        full.add(25, -5, 25, 30, 0);
        due(34, "the last of 24", full.count(10), 23);
    }

    private static void promise34Remembered() {
        CrossingSweep x = new CrossingSweep();
        for (int i = 1; i <= 10; i++) {
            x.turn();
            due(34, "what is remembered", x.count(11), Math.min(i, 8));
        }
    }

    private static void promise34AsManyAsThereCanBe() {
        // each two cross in a point of their own; ENDS in no line
        CrossingSweep x = new CrossingSweep();
        for (int i = 0; i < 24; i++) {
            int bow = (i - 12) * (i - 12);
            x.add(bow - 999, 83 * i - 955 + i % 2, 999 - bow, 955 - 83 * i - i * i * i % 15, i & 3);
        }
        int[] want = {24, 276, 324, 0, 576, 1, 254, 2, 24, 47, 0, 8, 48, 276, 46, 276};
        for (int what = 0; what < 16; what++) {
            if (what != 9) {
                due(34, "count(" + what + ")", x.count(what), want[what]);
            }
        }
        due(34, "24 are met behind it", x.status(x.count(9), NONE), 24);
        due(34, "and not behind the one ahead", x.status(x.count(9) - 1, NONE) < 24, true);
        due(16, "the last CROSSING", x.crossing(275, 4), 2);
        due(17, "the last EVENT", x.event(323, 7), NONE);
        due(20, "to the last EVENT and back", x.road(0, 323), x.road(323, 0));
        due(20, "there is one", x.road(0, 323) > 1, true);
        due(16, "none behind it", Calls.outcome(() -> x.crossing(276, 4)), INDEX);
        due(17, "none behind it", Calls.outcome(() -> x.event(324, 4)), INDEX);
    }
}
