/** The promises one by one: ordinary numbers, the edges that the document names, and wrong numbers. */
public final class PromisesTest extends Checks {
    /** Two that cross in 0 0, an upright one through it, and a level one through all. */
    private static final String STAR = "seg -10 -10 10 10; seg -10 10 10 -10 tint 1; seg 0 -5 0 5 tint 2;"
            + "seg 20 0 -20 0 tint 1";
    /** Three in a row that lie along the X axis, one above them, and a mere point in the first. */
    private static final String ROW = "seg 0 0 10 0; seg 4 0 14 0 tint 1; seg 14 0 20 0 tint 2; seg 0 5 20 5 tint 3;"
            + "seg 7 0 7 0 tint 1";

    private PromisesTest() {
    }

    public static void main(String[] args) {
        newObject();
        feedAndEnd();
        actsOfEachKind();
        actsThatAreWrong();
        actsAtTheirBounds();
        faults();
        adding();
        cutting();
        moving();
        tinting();
        turning();
        undoing();
        segments();
        hows();
        meeting();
        lyingAlong();
        crossings();
        events();
        statuses();
        statusTies();
        ranks();
        roads();
        views();
        tiedOnes();
        stepsBetween();
        hulls();
        onOnes();
        atPoints();
        nexts();
        overs();
        sights();
        boxes();
        tintedOnes();
        images();
        counts();
        countsOfMany();
        finish();
    }

    private static void newObject() {
        CrossingSweep x = new CrossingSweep();
        due(1, "NONE", NONE, -1);
        due(1, "SEGMENTS", x.count(0), 0);
        due(1, "EVENTS", x.count(2), 0);
        due(1, "remembered", x.count(11), 0);
        due(1, "fault", x.fault(), NONE);
        due(1, "back", x.back(), false);
        due(1, "bytes", x.end(1), false);
        due(1, "no bytes", x.end(0), true);
    }

    private static void feedAndEnd() {
        CrossingSweep x = new CrossingSweep();
        due(2, "highest first", x.feed('t' << 24 | 'u' << 16 | 'r' << 8 | 'n', ';' << 24, -1, 0, LEAST), 20);
        due(3, "no more than there are", x.end(21), false);
        due(3, "all of them", x.end(20), true);
        due(3, "below 0", x.end(-1), false);
        due(3, "far below 0", x.end(LEAST), false);
        due(3, "fewer", x.end(4), true);
        due(3, "those behind are gone", x.end(5), false);
        due(4, "turn", x.acts(), 1);
        due(4, "used up", x.end(1), false);
        for (int i = 1; i <= 20; i++) {
            due(2, "so many", x.feed(i, i, i, i, i), 20 * i);
        }
        due(2, "400 are all", x.feed(0, 0, 0, 0, 0), NONE);
        due(3, "none came", x.end(400), true);
        due(3, "and one less", x.end(381), true);
        due(2, "19 are free", x.feed(0, 0, 0, 0, 0), NONE);
        due(3, "still so many", x.end(382), false);
        due(3, "one less", x.end(380), true);
        due(2, "20 are free", x.feed(0, 0, 0, 0, 0), 400);
        due(3, "none", x.end(0), true);
        due(4, "an empty text", x.acts(), 0);
    }

    private static void actsOfEachKind() {
        CrossingSweep x = new CrossingSweep();
        due(4, "seg", tell(x, "seg 1 -2 -3 4"), 1);
        due(4, "LEFT X", x.segment(0, 0), -3);
        due(4, "LEFT Y", x.segment(0, 1), 4);
        due(4, "RIGHT X", x.segment(0, 2), 1);
        due(4, "RIGHT Y", x.segment(0, 3), -2);
        due(4, "TINT without", x.segment(0, 4), 0);
        due(4, "no blanks, blanks", tell(x, "  seg-1-02 003 999tint3;seg 5  5   5 5 ; tint 0 2 "), 3);
        due(4, "X", x.segment(1, 0), -1);
        due(4, "Y", x.segment(1, 1), -2);
        due(4, "other X", x.segment(1, 2), 3);
        due(4, "other Y", x.segment(1, 3), 999);
        due(4, "TINT", x.segment(1, 4), 3);
        due(4, "TINT told", x.segment(0, 4), 2);
        due(4, "move", tell(x, "move 2 by -6 007;turn"), 2);
        due(4, "moved and turned X", x.segment(2, 0), -12);
        due(4, "moved and turned Y", x.segment(2, 1), -1);
        due(4, "cut", tell(x, "cut 0"), 1);
        due(4, "those behind are one less", x.segment(0, 4), 3);
        due(4, "an empty text", tell(x, ""), 0);
        due(4, "blanks alone", tell(x, "   "), 0);
        x.turn();
        due(4, "by hand is remembered", x.count(11), 1);
        due(4, "one behind another", tell(x, "cut 1;cut 0;seg 1 1 2 2;cut 0"), 4);
        due(4, "a right text: none remembered", x.count(11), 0);
        refused(11, x, STATE, x::undo);
        x.turn();
        tell(x, "");
        due(4, "also an empty one", x.count(11), 0);
    }

    private static void actsThatAreWrong() {
        CrossingSweep x = of("seg 0 0 1 1");
        x.add(1, 1, 2, 2, 3);
        for (String text : new String[] {"cut 2", "turn; seg 1 1 1 1; cut 3", "seg 1 1 1 1; move 0 by 999 0",
            "turn;"}) {
            put(x, text);
            refused(4, x, ARGUMENT, x::acts);
            due(4, "the TAPE is used up", x.end(1), false);
            due(4, "what is remembered stays", x.count(11), 1);
        }
        due(4, "the hand's is taken back", x.undo(), 0);
        due(4, "one SEGMENT", x.count(0), 1);
    }

    private static void actsAtTheirBounds() {
        String four = "seg 0 0 9 9;seg 0 1 9 9;seg 0 2 9 9;seg 0 3 9 9;";
        CrossingSweep x = new CrossingSweep();
        due(4, "14 ACTS", tell(x, four + four + four + "seg 0 4 9 9;seg 0 5 9 9"), 14);
        wrongAt(x, 14 * 5, "turn;".repeat(14) + "turn");
        wrongAt(x, 14 * 5 + 2, "turn;".repeat(14) + "  9");
        wrongAt(x, 14 * 5 + 1, "turn;".repeat(14) + " ");
        wrongAt(x, 14 * 5, "turn;".repeat(14) + ";");
        due(4, "10 more", tell(x, four + four + "seg 0 4 9 9;seg 0 5 9 9"), 10);
        due(4, "24", x.count(0), 24);
        wrongAt(x, 400, " ".repeat(390) + "seg 1 2  3");
        wrongAt(x, 400, " ".repeat(390) + "cut 0 ;cut");
        wrongAt(x, 400, " ".repeat(390) + "seg 1 2 3-");
        wrongAt(x, 400, " ".repeat(390) + "seg 1 2 3 ");
        wrongAt(x, 396, "turn;" + " ".repeat(391) + "turx");
        due(4, "of 400 bytes", tell(x, " ".repeat(386) + "turn; tint 0 1"), 2);
        due(4, "of 400 bytes", tell(x, "turn; turn" + " ".repeat(386) + "    "), 2);
        due(4, "of 400 bytes", tell(x, " ".repeat(390) + "turn; turn"), 2);
        tell(x, "turn; tint 0 0");
        wrongAt(x, 1, " seg 0 0 9 9 tint 1;turn");
        wrongAt(x, 7, "turn ; seg 0 0 9 9");
        wrongAt(x, 17, "seg 0 0 9 9 tint 4");
        wrongAt(x, 16, "seg 0 0 9 9 tint");
        due(4, "one cut, one more", tell(x, "cut 23; seg 0 0 9 9"), 2);
    }

    private static void faults() {
        String[] texts = {"x", "Seg 0 0 1 1", "seg", "segs 0 0 1 1", "seg x", "seg 1", "seg 1 2 3", "seg 1 2 3 4 5",
            "seg 1 2 3 4 cut 0", "seg 1 2 3 4 tint 4", "seg 1 2 3 4 tint -1", "seg 1 2 3 4 tint 1 tint 1",
            "seg 1000 1 1 1", "seg 1 -1000 1 1", "seg 1 2 0001 1", "seg 1 2 - 3 4", "seg 1 2 -", "seg 1 2 --3 4",
            "seg 1 2 -x", "cut", "cut 2", "cut -0", "cut 0000", "cut 0 0", "move 0 to 1 1", "move 0 by 1 1",
            "move 0 by -1 -1", "move 1 by 1", "move 1 by 994 0", "  move 1 by 0 -1", "  move 0 by 0 -1", "tint 0",
            "tint 0 4", "tint 2 0", "tint 0 1 2", "turn turn", "turn 1", ";", "turn;;turn", "turn; ", "turn ,",
            "\u00e9", "turn\0", "turnx", "t", "seg 1 2 3 4 t", "seg 1 2 3 4 tintx 1", "move 0 byx 1 1", "1", "-",
            "cut 0; cut 1", "turn; seg 1 2 3 4; cut 4", "tint 0 12", "move 2 by 1 1", "cut\t0",
            "seg 1 2 3 4 tint 9 9", "move 0 by 1 x 1", "tint 0 7 x", "cut 9 x", "move 9 by x",
            "move 0 by 1 9999 x", "turna", "turnz", "aturn", "z", "turn`", "turn{"};
        int[] places = {0, 0, 3, 0, 4, 5, 9, 12,
            12, 17, 17, 19,
            4, 6, 8, 9, 9, 9,
            9, 3, 4, 4, 4, 6, 7, 0,
            0, 11, 0, NONE, 2, 6,
            7, 5, 9, 5, 5, 0, 5, 6, 5,
            0, 4, 0, 0, 12, 12, 7, 0, 0,
            11, 23, 7, 5, 3,
            17, 12, 7, 4, 5, 12, 0, 0, 0, 0, 4, 4};
        for (int i = 0; i < texts.length; i++) {
            CrossingSweep x = of("seg 0 0 999 -999; seg 5 5 6 6");
            if (places[i] == NONE) {
                right(x, 1, texts[i]);
            } else {
                wrongAt(x, places[i], texts[i]);
            }
        }
        CrossingSweep x = new CrossingSweep();
        wrongAt(x, 4, "turn{");
        due(5, "it stays until the next text", x.fault(), 4);
        x.add(0, 0, 0, 0, 0);
        x.undo();
        x.image();
        x.back();
        due(5, "the IMAGE has none of it", x.fault(), 4);
        tell(x, "turn");
        due(5, "a right text", x.fault(), NONE);
    }

    private static void adding() {
        CrossingSweep x = new CrossingSweep();
        due(6, "the first", x.add(999, -999, -999, 999, 3), 0);
        due(6, "LEFT X", x.segment(0, 0), -999);
        due(6, "LEFT Y", x.segment(0, 1), 999);
        due(6, "RIGHT X", x.segment(0, 2), 999);
        due(6, "RIGHT Y", x.segment(0, 3), -999);
        due(6, "TINT", x.segment(0, 4), 3);
        due(6, "the second", x.add(4, 9, 4, 2, 0), 1);
        due(6, "of like X the lesser Y is LEFT", x.segment(1, 1), 2);
        due(6, "RIGHT", x.segment(1, 3), 9);
        due(6, "remembered", x.count(11), 2);
        int[][] bad = {{1000, 0, 0, 0, 0}, {0, -1000, 0, 0, 0}, {0, 0, -1000, 0, 0}, {0, 0, 0, 1000, 0},
            {0, 0, 0, 0, 4}, {0, 0, 0, 0, -1}, {LEAST, 0, 0, 0, 0}, {0, MOST, 0, 0, 0}, {0, 0, 0, 0, MOST}};
        for (int[] b : bad) {
            refused(6, x, ARGUMENT, () -> x.add(b[0], b[1], b[2], b[3], b[4]));
        }
        for (int i = 2; i < 24; i++) {
            due(6, "its number", x.add(i, i, i, i, i & 3), i);
        }
        refused(6, x, STATE, () -> x.add(0, 0, 0, 0, 0));
        refused(6, x, ARGUMENT, () -> x.add(0, 0, 0, 0, 4));
        refused(6, x, ARGUMENT, () -> x.add(0, 0, 1000, 0, 0));
    }

    private static void cutting() {
        CrossingSweep x = of("seg 0 0 10 0; seg 1 -1 1 1 tint 1; seg 2 -1 2 1 tint 2; seg 2 0 3 3 tint 3; seg 9 9 9 9");
        due(7, "ahead", x.count(1), 2);
        refused(7, x, INDEX, () -> x.cut(5));
        refused(7, x, INDEX, () -> x.cut(-1));
        refused(7, x, INDEX, () -> x.cut(MOST));
        refused(7, x, INDEX, () -> x.cut(LEAST));
        due(7, "nobody's crossing", x.cut(4), 0);
        due(7, "one of three in a point", x.cut(2), 0);
        due(7, "numbers behind it", x.segment(2, 4), 3);
        due(7, "remembered", x.count(11), 2);
        due(7, "both", x.cut(0), 2);
        due(7, "two are left", x.count(0), 2);
        due(7, "the first is", x.segment(0, 4), 1);
    }

    private static void moving() {
        CrossingSweep x = of("seg 0 0 10 10 tint 3; seg 0 10 10 0; seg 20 0 30 10");
        due(8, "together", x.move(2, -20, 0), 1);
        due(8, "X", x.segment(2, 0), 0);
        due(8, "away", x.move(1, 0, 50), 0);
        due(8, "Y", x.segment(1, 1), 60);
        due(8, "by nothing", x.move(1, 0, 0), 0);
        due(8, "it is remembered, too", x.count(11), 3);
        due(8, "to the bounds", x.move(0, 989, -999), 0);
        due(8, "RIGHT X", x.segment(0, 2), 999);
        due(8, "LEFT Y", x.segment(0, 1), -999);
        due(8, "the TINT stays", x.segment(0, 4), 3);
        refused(8, x, ARGUMENT, () -> x.move(0, 1, 0));
        refused(8, x, ARGUMENT, () -> x.move(0, 0, -1));
        refused(8, x, ARGUMENT, () -> x.move(1, MOST, 0));
        refused(8, x, ARGUMENT, () -> x.move(1, 0, LEAST));
        refused(8, x, ARGUMENT, () -> x.move(0, -1989, 0));
        refused(8, x, INDEX, () -> x.move(3, 0, 0));
        refused(8, x, INDEX, () -> x.move(-1, MOST, 0));
        CrossingSweep wide = of("seg -999 -999 5 5; seg 5 5 999 999; seg -3 999 3 -5");
        refused(8, wide, ARGUMENT, () -> wide.move(0, -1, 0));
        refused(8, wide, ARGUMENT, () -> wide.move(0, 0, -1));
        refused(8, wide, ARGUMENT, () -> wide.move(1, 1, 0));
        refused(8, wide, ARGUMENT, () -> wide.move(1, 0, 1));
        refused(8, wide, ARGUMENT, () -> wide.move(2, 0, 1));
        due(8, "two back", x.move(1, 0, -50), 1);
    }

    private static void tinting() {
        CrossingSweep x = of("seg 0 0 1 1 tint 2; seg 0 1 1 0");
        due(9, "what it was", x.tint(0, 3), 2);
        due(9, "what it is", x.segment(0, 4), 3);
        due(9, "again", x.tint(0, 3), 3);
        due(9, "remembered both", x.count(11), 2);
        due(9, "the other one", x.segment(1, 4), 0);
        due(9, "in a CROSSING", x.crossing(0, 6), 9);
        refused(9, x, ARGUMENT, () -> x.tint(0, 4));
        refused(9, x, ARGUMENT, () -> x.tint(1, -1));
        refused(9, x, INDEX, () -> x.tint(2, 4));
        refused(9, x, INDEX, () -> x.tint(-1, 0));
    }

    private static void turning() {
        CrossingSweep x = of("seg 1 2 5 9 tint 1; seg 3 3 8 3; seg -1 0 -1 4; seg 7 7 7 7");
        due(10, "EVENTS", x.turn(), 7);
        int[][] want = {{-9, 5, -2, 1}, {-3, 3, -3, 8}, {-4, -1, 0, -1}, {-7, 7, -7, 7}};
        for (int s = 0; s < 4; s++) {
            for (int what = 0; what < 4; what++) {
                due(10, "END", x.segment(s, what), want[s][what]);
            }
        }
        due(10, "the TINT stays", x.segment(0, 4), 1);
        due(10, "remembered", x.count(11), 1);
        x.turn();
        x.turn();
        x.turn();
        due(10, "four times", x.segment(0, 1), 2);
        due(10, "without any", new CrossingSweep().turn(), 0);
    }

    private static void undoing() {
        CrossingSweep x = new CrossingSweep();
        refused(11, x, STATE, x::undo);
        x.add(0, 0, 4, 4, 1);
        x.add(0, 4, 4, 0, 2);
        x.move(0, 1, 1);
        x.tint(1, 3);
        x.turn();
        x.cut(0);
        due(11, "a cut", x.undo(), 5);
        due(11, "it is there again", x.segment(0, 4), 1);
        due(11, "a turn", x.undo(), 4);
        due(11, "LEFT X", x.segment(0, 0), 1);
        due(11, "a TINT", x.undo(), 3);
        due(11, "it was", x.segment(1, 4), 2);
        due(11, "a move", x.undo(), 2);
        due(11, "LEFT X", x.segment(0, 0), 0);
        due(11, "CROSSINGS", x.count(1), 1);
        due(11, "an add", x.undo(), 1);
        due(11, "CROSSINGS", x.count(1), 0);
        due(11, "the first add", x.undo(), 0);
        due(11, "none is left", x.count(0), 0);
        refused(11, x, STATE, x::undo);
        for (int i = 0; i < 11; i++) {
            x.add(i, i, i, i, 0);
        }
        due(11, "8 are remembered", x.count(11), 8);
        for (int i = 7; i >= 0; i--) {
            due(11, "so many are then", x.undo(), i);
        }
        due(11, "three stay", x.count(0), 3);
        refused(11, x, STATE, x::undo);
        x.turn();
        x.undo();
        x.tint(0, 1);
        due(11, "one taken back is not remembered", x.undo(), 0);
    }

    private static void segments() {
        CrossingSweep x = of(ROW);
        int[][] want = {{0, 0, 10, 0, 0, 2, 1, 3, 23}, {4, 0, 14, 0, 1, 2, 2, 3, 23}, {14, 0, 20, 0, 2, 2, 1, 1, 23},
            {0, 5, 20, 5, 3, 2, 0, 1, 8}, {7, 0, 7, 0, 1, 0, 1, 0, 23}};
        for (int s = 0; s < 5; s++) {
            for (int what = 0; what < 9; what++) {
                due(12, "segment " + s + " " + what, x.segment(s, what), want[s][what]);
            }
        }
        CrossingSweep star = of(STAR);
        due(12, "upright", star.segment(2, 5), 1);
        due(12, "else", star.segment(1, 5), 3);
        due(12, "CROSSINGS on it", star.segment(2, 6), 1);
        due(12, "PIECES", star.segment(3, 7), 2);
        refused(12, x, NO_SUCH, () -> x.segment(0, 9));
        refused(12, x, NO_SUCH, () -> x.segment(0, -1));
        refused(12, x, INDEX, () -> x.segment(5, 0));
        refused(12, x, INDEX, () -> x.segment(-1, 9));
        CrossingSweep third = of("seg 0 0 9 0; seg 0 0 9 0; seg 3 -3 3 3; seg 9 0 12 0");
        due(12, "CROSSINGS of others that lie on it count", third.segment(0, 6), 2);
        due(12, "and for the upright one", third.segment(2, 6), 1);
        CrossingSweep like = of("seg 0 0 9 0; seg 0 0 9 0; seg 0 0 9 0");
        due(12, "like ones are one PART", like.segment(1, 8), 7);
        due(12, "of one PIECE", like.segment(1, 7), 1);
    }

    private static void hows() {
        CrossingSweep x = of("seg 0 0 10 0; seg 10 0 0 0; seg 5 0 15 0; seg 10 0 20 0; seg 5 -5 5 5; seg 3 0 3 9;"
                + "seg 1 1 2 1; seg 4 0 4 0; seg 4 0 4 0; seg 0 0 0 7");
        int[] want = {0, 4, 3, 1, 2, 1, 0, 1, 1, 1};
        for (int s = 1; s < 10; s++) {
            due(13, "0 and " + s, x.how(0, s), want[s]);
            due(13, s + " and 0", x.how(s, 0), want[s]);
        }
        due(13, "like mere points", x.how(7, 8), 4);
        due(13, "in the END of one and none of the other", x.how(2, 4), 1);
        due(13, "apart", x.how(9, 6), 0);
        CrossingSweep slanted = of("seg 0 0 7 5; seg 7 0 7 9; seg 4 9 7 5; seg 0 9 7 5; seg 1 1 8 2");
        due(13, "in its RIGHT", slanted.how(0, 1), 1);
        due(13, "and back", slanted.how(1, 0), 1);
        due(13, "in the RIGHT of both", slanted.how(0, 3), 1);
        due(13, "in no END", slanted.how(0, 4), 2);
        CrossingSweep apart = of("seg 0 0 0 2; seg 0 5 0 7; seg 0 2 0 5; seg 3 0 4 0; seg 6 0 7 0; seg 3 1 4 1");
        due(13, "in one upright line, but apart", apart.how(0, 1), 0);
        due(13, "and back", apart.how(1, 0), 0);
        due(13, "in one upright line, END to END", apart.how(2, 1), 1);
        due(13, "in one level line, but apart", apart.how(4, 3), 0);
        due(13, "beside one another", apart.how(3, 5), 0);
        refused(13, x, ARGUMENT, () -> x.how(3, 3));
        refused(13, x, INDEX, () -> x.how(10, 0));
        refused(13, x, INDEX, () -> x.how(0, 10));
        refused(13, x, INDEX, () -> x.how(-1, -1));
    }

    private static void meeting() {
        CrossingSweep x = of("seg -1 0 2 -7; seg 0 0 -3 -5; seg 0 0 9 9; seg 0 0 9 9; seg 4 4 4 4; seg 4 4 4 4;"
                + "seg 9 9 9 20; seg 999 999 -999 -998; seg -999 999 999 -998");
        due(14, "X", x.meet(0, 1, 0), -7);
        due(14, "below", x.meet(0, 1, 1), 12);
        due(14, "Y", x.meet(0, 1, 2), -35);
        due(14, "below", x.meet(0, 1, 3), 36);
        due(14, "the other way about", x.meet(1, 0, 2), -35);
        due(14, "0 over 1", x.meet(1, 2, 0), 0);
        due(14, "0 over 1", x.meet(1, 2, 1), 1);
        due(14, "mere points that are like", x.meet(4, 5, 2), 4);
        due(14, "in an END", x.meet(3, 6, 2), 9);
        due(14, "far ones", x.meet(7, 8, 0), 0);
        due(14, "far ones", x.meet(7, 8, 1), 1);
        due(14, "far ones", x.meet(7, 8, 2), 1);
        due(14, "far ones", x.meet(7, 8, 3), 2);
        refused(14, x, STATE, () -> x.meet(2, 3, 0));
        refused(14, x, STATE, () -> x.meet(0, 6, 0));
        refused(14, x, ARGUMENT, () -> x.meet(0, 0, 0));
        refused(14, x, NO_SUCH, () -> x.meet(0, 0, 4));
        refused(14, x, NO_SUCH, () -> x.meet(2, 3, -1));
        refused(14, x, INDEX, () -> x.meet(9, 0, 4));
        refused(14, x, INDEX, () -> x.meet(0, 9, 4));
        refused(14, x, INDEX, () -> x.meet(-1, -1, 0));
    }

    private static void lyingAlong() {
        CrossingSweep x = of("seg 0 0 10 5; seg 20 10 4 2; seg 6 3 8 4; seg 3 9 3 1; seg 3 4 3 30; seg 10 5 20 10;"
                + "seg 6 3 6 3");
        int[][] want = {{0, 1, 4, 2, 10, 5}, {0, 2, 6, 3, 8, 4}, {1, 2, 6, 3, 8, 4}, {3, 4, 3, 4, 3, 9}};
        for (int[] w : want) {
            for (int what = 0; what < 4; what++) {
                due(15, "along", x.along(w[0], w[1], what), w[what + 2]);
                due(15, "and about", x.along(w[1], w[0], what), w[what + 2]);
            }
        }
        refused(15, x, STATE, () -> x.along(0, 5, 0));
        refused(15, x, STATE, () -> x.along(0, 6, 0));
        refused(15, x, STATE, () -> x.along(3, 0, 0));
        refused(15, x, ARGUMENT, () -> x.along(1, 1, 0));
        refused(15, x, NO_SUCH, () -> x.along(1, 1, 4));
        refused(15, x, NO_SUCH, () -> x.along(0, 5, -1));
        refused(15, x, INDEX, () -> x.along(7, 7, 4));
        refused(15, x, INDEX, () -> x.along(0, -1, 0));
    }

    private static void crossings() {
        CrossingSweep x = of("seg 0 0 7 7 tint 3; seg 0 1 7 0 tint 1; seg 0 4 7 4; seg 4 4 4 9 tint 2; seg 2 2 4 4;"
                + "seg 0 4 4 4");
        long[][] want = {{7, 8, 7, 8, 2, 3, 10}, {4, 1, 4, 1, 5, 0b111101, 13}};
        due(16, "how many", x.count(1), 2);
        for (int k = 0; k < 2; k++) {
            for (int what = 0; what < 7; what++) {
                due(16, "crossing " + k + " " + what, x.crossing(k, what), want[k][what]);
            }
        }
        refused(16, x, NO_SUCH, () -> x.crossing(0, 7));
        refused(16, x, NO_SUCH, () -> x.crossing(0, -1));
        refused(16, x, INDEX, () -> x.crossing(2, 7));
        refused(16, x, INDEX, () -> x.crossing(-1, 0));
        CrossingSweep above = of("seg -1 8 1 8; seg -1 3 1 3; seg 0 0 0 9; seg -9 0 -9 0; seg -9 0 -9 0");
        due(16, "mere points, ahead", above.crossing(0, 0), -9);
        due(16, "of like X the lesser Y", above.crossing(1, 2), 3);
        due(16, "then the greater", above.crossing(2, 2), 8);
    }

    private static void events() {
        CrossingSweep x = of(ROW);
        long[][] want = {{0, 1, 0, 1, 1, 0, 0, NONE, 0, 1}, {0, 1, 5, 1, 8, 0, 0, NONE, 0, 1},
            {4, 1, 0, 1, 2, 0, 1, NONE, 0, 2}, {7, 1, 0, 1, 16, 16, 3, 0, 0, 2}, {10, 1, 0, 1, 0, 1, 2, NONE, 0, 2},
            {14, 1, 0, 1, 4, 2, 0, 1, 0, 2}, {20, 1, 0, 1, 0, 4, 0, NONE, 0, 1}, {20, 1, 5, 1, 0, 8, 0, NONE, 0, 1}};
        due(17, "how many", x.count(2), 8);
        for (int k = 0; k < 8; k++) {
            for (int what = 0; what < 10; what++) {
                due(17, "event " + k + " " + what, x.event(k, what), want[k][what]);
            }
        }
        CrossingSweep star = of(STAR);
        due(17, "SPREAD", star.event(4, 8), 6);
        due(17, "DEGREE", star.event(4, 9), 8);
        CrossingSweep half = of("seg 0 0 3 2; seg 0 2 3 0; seg 0 1 3 1; seg 0 1 9 1");
        due(17, "upper", half.event(3, 0), 3);
        due(17, "lower", half.event(3, 1), 2);
        due(17, "SPREAD without those ALONG one another", half.event(3, 8), 5);
        due(17, "DEGREE: one EDGE of two", half.event(3, 9), 6);
        refused(17, x, NO_SUCH, () -> x.event(0, 10));
        refused(17, x, NO_SUCH, () -> x.event(7, -1));
        refused(17, x, INDEX, () -> x.event(8, 10));
        refused(17, x, INDEX, () -> x.event(-1, 0));
    }

    private static void statusIs(CrossingSweep x, int k, int... want) {
        due(18, "how many behind " + k, x.status(k, NONE), want.length);
        for (int i = 0; i < want.length; i++) {
            due(18, "behind " + k + " the " + i + "-th", x.status(k, i), want[i]);
            due(19, "behind " + k + " of " + want[i], x.rank(want[i], k), i);
        }
        due(18, "without", x.status(k, want.length), NONE);
        due(18, "below 0", x.status(k, -2), NONE);
        due(18, "far", x.status(k, MOST), NONE);
    }

    private static void statuses() {
        CrossingSweep x = of(STAR);
        statusIs(x, 0, 3);
        statusIs(x, 1, 0, 3);
        statusIs(x, 2, 0, 3, 1);
        statusIs(x, 3, 2, 0, 3, 1);
        statusIs(x, 4, 1, 3, 0, 2);
        statusIs(x, 5, 1, 3, 0);
        statusIs(x, 6, 3, 0);
        statusIs(x, 7, 3);
        statusIs(x, 8);
        refused(18, x, INDEX, () -> x.status(9, 0));
        refused(18, x, INDEX, () -> x.status(-1, NONE));
        refused(18, x, INDEX, () -> x.status(LEAST, 0));
    }

    private static void statusTies() {
        // all come together in 5 5, and an upright one runs through it; the sweep stands below it, in it, above it
        CrossingSweep x = of("seg 0 0 10 10; seg 0 10 10 0; seg 0 5 10 5; seg 5 0 5 9; seg 0 5 10 5; seg 5 5 8 11");
        statusIs(x, 3, 3, 0, 2, 4, 1);
        statusIs(x, 4, 1, 2, 4, 0, 5, 3);
        statusIs(x, 5, 1, 2, 4, 0, 5);
        // a mere point far above: those that met below it stand as behind their point
        CrossingSweep above = of("seg 0 0 10 10; seg 0 10 10 0; seg 5 9 5 9; seg 5 1 5 1; seg 9 10 9 10");
        statusIs(above, 2, 0, 1);
        statusIs(above, 3, 1, 0);
        statusIs(above, 4, 1, 0);
        // it ends in the EVENT's X, but behind the EVENT
        CrossingSweep ending = of("seg 0 0 4 8; seg 0 9 9 9; seg 4 3 6 3; seg 4 8 7 8");
        statusIs(ending, 2, 2, 0, 1);
        statusIs(ending, 3, 2, 3, 1);
        // upright ones that lie along one another, the lesser number ahead
        CrossingSweep tower = of("seg 1 0 1 9; seg 1 2 1 12; seg 1 3 9 3; seg 0 3 9 3");
        statusIs(tower, 2, 0, 1, 3);
        statusIs(tower, 3, 2, 3, 0, 1);
        statusIs(tower, 4, 2, 3, 1);
    }

    private static void ranks() {
        CrossingSweep x = of(STAR);
        due(19, "first", x.rank(2, 3), 0);
        due(19, "last", x.rank(2, 4), 3);
        due(19, "not yet", x.rank(2, 2), NONE);
        due(19, "no more", x.rank(2, 5), NONE);
        refused(19, x, INDEX, () -> x.rank(4, 0));
        refused(19, x, INDEX, () -> x.rank(-1, 0));
        refused(19, x, INDEX, () -> x.rank(0, 9));
        refused(19, x, INDEX, () -> x.rank(0, -1));
        CrossingSweep points = of("seg 3 3 3 3");
        due(19, "a mere point is in none", points.rank(0, 0), NONE);
    }

    private static void roads() {
        CrossingSweep x = of("seg 0 0 0 9; seg 0 9 9 9; seg 9 9 9 0; seg 0 0 9 0; seg 0 0 -5 0; seg 20 20 30 30;"
                + "seg 4 -2 4 2");
        due(20, "to itself", x.road(2, 2), 0);
        due(20, "one", x.road(0, 1), 1);
        due(20, "around the lesser side", x.road(0, 2), 2);
        due(20, "to where the upright one crosses", x.road(1, 4), 1);
        due(20, "by two sides", x.road(2, 6), 2);
        due(20, "and back", x.road(6, 2), 2);
        due(20, "none", x.road(0, 8), NONE);
        due(20, "none back", x.road(8, 0), NONE);
        due(20, "apart itself", x.road(9, 8), 1);
        due(20, "from end to end", x.road(3, 7), 3);
        due(20, "to the first one", x.road(7, 0), 3);
        due(20, "back from the upright one", x.road(5, 0), 3);
        refused(20, x, INDEX, () -> x.road(10, 0));
        refused(20, x, INDEX, () -> x.road(0, 10));
        refused(20, x, INDEX, () -> x.road(-1, 0));
        refused(20, x, INDEX, () -> x.road(0, -1));
    }

    private static void views() {
        CrossingSweep x = of(STAR);
        due(21, "how many", x.view(NONE), 4);
        int[] want = {3, 1, 0, 3};
        for (int k = 0; k < 4; k++) {
            due(21, "seen", x.view(k), want[k]);
        }
        due(21, "without", x.view(4), NONE);
        due(21, "below", x.view(-2), NONE);
        due(21, "far", x.view(MOST), NONE);
        CrossingSweep gaps = of("seg 0 0 2 0; seg 4 4 4 4; seg 5 5 5 9; seg 6 0 8 0; seg 7 -5 9 -5");
        int[] seen = {0, NONE, 3, 4};
        due(21, "with one gap", gaps.view(NONE), 4);
        for (int k = 0; k < 4; k++) {
            due(21, "seen, and nobody", gaps.view(k), seen[k]);
        }
        due(21, "nobody first", of("seg 0 0 0 0; seg 5 5 9 9").view(NONE), 2);
        due(21, "then one", of("seg 0 0 0 0; seg 5 5 9 9").view(1), 1);
        due(21, "of one X", of("seg 4 0 4 9").view(NONE), 0);
        due(21, "of one X nobody", of("seg 4 0 4 9").view(0), NONE);
        due(21, "of none", new CrossingSweep().view(NONE), 0);
    }

    private static void tiedOnes() {
        CrossingSweep x = of(ROW);
        int[] want = {18, 21, 2, 0, 3};
        for (int s = 0; s < 5; s++) {
            due(22, "tied to " + s, x.tied(s), want[s]);
        }
        refused(22, x, INDEX, () -> x.tied(5));
        refused(22, x, INDEX, () -> x.tied(-1));
    }

    private static void stepsBetween() {
        CrossingSweep x = of(ROW);
        int[][] want = {{0, 0, 0}, {0, 1, 1}, {0, 2, 2}, {2, 4, 2}, {0, 3, NONE}, {3, 3, 0}, {4, 0, 1}};
        for (int[] w : want) {
            due(23, "steps", x.steps(w[0], w[1]), w[2]);
            due(23, "steps back", x.steps(w[1], w[0]), w[2]);
        }
        CrossingSweep chain = new CrossingSweep();
        for (int i = 0; i < 24; i++) {
            chain.add(i, 0, i + 1, 0, 0);
        }
        due(23, "the longest", chain.steps(0, 23), 23);
        refused(23, x, INDEX, () -> x.steps(5, 0));
        refused(23, x, INDEX, () -> x.steps(0, 5));
        refused(23, x, INDEX, () -> x.steps(-1, -1));
    }

    private static void hullIs(CrossingSweep x, int... want) {
        due(24, "how many", x.count(14), want.length / 2);
        for (int i = 0; i < want.length; i++) {
            due(24, "the " + i / 2 + "-th", x.hull(i / 2, i % 2 != 0), want[i]);
        }
        refused(24, x, INDEX, () -> x.hull(want.length / 2, false));
        refused(24, x, INDEX, () -> x.hull(-1, true));
    }

    private static void hulls() {
        hullIs(of(STAR), -20, 0, -10, -10, 10, -10, 20, 0, 10, 10, -10, 10);
        hullIs(new CrossingSweep());
        hullIs(of("seg 3 4 3 4; seg 3 4 3 4"), 3, 4);
        hullIs(of("seg 3 4 5 8; seg 4 6 4 6; seg 1 0 9 16"), 1, 0, 9, 16);
        hullIs(of("seg 2 9 2 1; seg 2 4 2 30"), 2, 1, 2, 30);
        hullIs(of("seg 0 0 4 0; seg 0 4 4 4; seg 0 2 4 2; seg 2 0 2 4; seg 1 1 3 3"), 0, 0, 4, 0, 4, 4, 0, 4);
        hullIs(of("seg 5 5 0 0; seg 5 -5 5 5"), 0, 0, 5, -5, 5, 5);
        CrossingSweep bow = new CrossingSweep();
        for (int i = 0; i < 24; i++) {
            int away = (i - 12) * (i - 12);
            bow.add(away - 999, 83 * i - 955, 999 - away, 83 * i - 955, 0);
        }
        due(24, "all ENDS", bow.count(14), 48);
        due(24, "the last one", bow.hull(47, false), 1 - 999);
        due(24, "the last one", bow.hull(47, true), 83 * 13 - 955);
    }

    private static void onOnes() {
        CrossingSweep x = of("seg 0 0 20 0; seg 3 -3 3 3; seg 9 -9 9 9; seg 0 3 20 3; seg 3 0 9 0; seg 50 50 50 50");
        int[][] want = {{0, 2, NONE}, {0, 1, NONE}, {2, 3, NONE}, {1, 3, NONE}, {0, 2, NONE}, {NONE, NONE, NONE}};
        for (int s = 0; s < 6; s++) {
            for (int k = 0; k < 3; k++) {
                due(25, "on " + s, x.on(s, k), want[s][k]);
            }
            due(25, "below 0", x.on(s, -1), NONE);
        }
        refused(25, x, INDEX, () -> x.on(6, 0));
        refused(25, x, INDEX, () -> x.on(-1, -1));
    }

    private static void atPoints() {
        CrossingSweep x = of("seg 0 0 6 3; seg 4 2 4 2; seg 4 -9 4 2; seg 0 2 9 2; seg 0 0 999 999; seg 5 2 9 5");
        due(26, "many", x.at(4, 2), 15);
        due(26, "an END", x.at(0, 0), 17);
        due(26, "an END", x.at(6, 3), 1);
        due(26, "in its line, but not on it", x.at(8, 4), 0);
        due(26, "above the upright one", x.at(4, 3), 0);
        due(26, "beside it", x.at(5, 1), 0);
        due(26, "far", x.at(999, 999), 16);
        refused(26, x, ARGUMENT, () -> x.at(1000, 0));
        refused(26, x, ARGUMENT, () -> x.at(0, -1000));
        refused(26, x, ARGUMENT, () -> x.at(LEAST, 0));
        refused(26, x, ARGUMENT, () -> x.at(0, MOST));
    }

    private static void nexts() {
        CrossingSweep x = of("seg 0 0 9 0; seg 0 10 9 10; seg 5 2 5 4; seg 5 6 5 6; seg 0 0 9 0; seg 0 1 3 2;"
                + "seg 0 1 3 3;"
                + "seg 9 3 20 3");
        due(27, "down to the upright one's end", x.next(5, 5, false), 2);
        due(27, "up to the mere point", x.next(5, 5, true), 3);
        due(27, "from in the upright one down", x.next(5, 3, false), 0);
        due(27, "from in the upright one up", x.next(5, 3, true), 3);
        due(27, "the least of several", x.next(7, 3, false), 0);
        due(27, "between whole numbers", x.next(2, 3, false), 6);
        due(27, "those that have it do not count", x.next(2, 10, true), NONE);
        due(27, "nobody below", x.next(5, 0, false), NONE);
        due(27, "an END counts", x.next(9, 8, false), 7);
        due(27, "beside all", x.next(21, 0, true), NONE);
        due(27, "of like height the least", x.next(0, 5, false), 5);
        refused(27, x, ARGUMENT, () -> x.next(0, 1000, true));
        refused(27, x, ARGUMENT, () -> x.next(-1000, 0, false));
        CrossingSweep close = of("seg 0 0 7 1; seg 0 0 6 1; seg -999 0 999 1");
        due(27, "of parts the nearest", close.next(1, 1, false), 2);
        due(27, "of parts the nearest", close.next(1, 0, true), 0);
    }

    private static void overs() {
        CrossingSweep x = of("seg 0 0 10 10; seg 0 9 10 9; seg 5 5 5 20; seg 5 20 5 20; seg 5 8 7 8; seg 0 7 5 7");
        due(28, "those above", x.over(5, 6), 2);
        due(28, "not those at it", x.over(5, 8), 1);
        due(28, "LEFT counts", x.over(0, -1), 3);
        due(28, "RIGHT does not", x.over(10, -1), 0);
        due(28, "between whole numbers", x.over(9, 8), 2);
        due(28, "none", x.over(-1, 0), 0);
        refused(28, x, ARGUMENT, () -> x.over(1000, 0));
        refused(28, x, ARGUMENT, () -> x.over(0, -1000));
    }

    private static void sights() {
        CrossingSweep x = of("seg 5 0 5 9; seg 3 3 4 4; seg 7 0 9 9; seg 0 0 0 0; seg 2 6 8 6; seg 1 0 2 0;"
                + "seg 0 0 0 0");
        due(29, "the first point counts", x.sight(0, 0, 9, 9), 3);
        due(29, "one in the line, by its nearer END", x.sight(1, 1, 9, 9), 1);
        due(29, "from the other side", x.sight(9, 9, 0, 0), 2);
        due(29, "the last point counts", x.sight(6, 9, 5, 9), 0);
        due(29, "not so far", x.sight(6, 9, 6, 7), NONE);
        due(29, "a mere point", x.sight(5, 6, 5, 6), 0);
        due(29, "a mere point with nobody", x.sight(1, 6, 1, 6), NONE);
        due(29, "along it", x.sight(-3, 6, 9, 6), 4);
        due(29, "from inside of it", x.sight(4, 6, 1, 6), 4);
        due(29, "beside it in its line", x.sight(9, 6, 12, 6), NONE);
        due(29, "the least of several", x.sight(-5, 0, 9, 0), 3);
        due(29, "from the right", x.sight(8, 0, -9, 0), 2);
        due(29, "alike far lines", x.sight(1, 1, 1, 9), NONE);
        refused(29, x, ARGUMENT, () -> x.sight(1000, 0, 0, 0));
        refused(29, x, ARGUMENT, () -> x.sight(0, 1000, 0, 0));
        refused(29, x, ARGUMENT, () -> x.sight(0, 0, -1000, 0));
        refused(29, x, ARGUMENT, () -> x.sight(0, 0, 0, -1000));
        CrossingSweep close = of("seg 0 9 10 8; seg 0 9 10 7; seg 0 1 0 1");
        due(29, "of parts the nearest", close.sight(3, 0, 3, 9), 1);
        due(29, "from the other side", close.sight(3, 9, 3, 0), 0);
        due(29, "slanted", of("seg 5 0 6 9; seg 4 1 8 0; seg 0 9 9 0; seg 3 0 4 1").sight(0, 0, 9, 8), 2);
        due(29, "below 0", of("seg -5 -3 -3 -5; seg -9 -3 -6 -9; seg -4 -3 -3 -4").sight(-9, -9, 0, 0), 1);
    }

    private static void boxes() {
        CrossingSweep x = of("seg 0 0 10 10; seg -5 5 5 -5; seg 0 10 10 20; seg 4 -9 4 30; seg 7 7 7 7; seg -2 3 20 3;"
                + "seg 10 -10 30 10; seg 11 0 0 11");
        due(30, "around", x.box(-999, -999, 999, 999), 255);
        due(30, "a corner, sides", x.box(0, 0, 10, 10), 255 & ~64);
        due(30, "inside of it, with no END", x.box(3, 2, 5, 4), 1 | 8 | 32);
        due(30, "a mere point", x.box(7, 7, 7, 7), 17);
        due(30, "a stretch", x.box(5, 5, 6, 5), 1 | 128);
        due(30, "a corner touched", x.box(6, 6, 8, 8), 1 | 16);
        due(30, "past the corner", x.box(20, -20, 25, -1), 0);
        due(30, "at the corner", x.box(20, -20, 25, 0), 64);
        CrossingSweep corners = of("seg -4 4 4 -4; seg 8 12 12 8; seg 9 -1 11 1; seg -2 8 2 12; seg -4 3 4 -4;"
                + "seg 8 13 12 8; seg 9 -2 12 1; seg -2 9 2 13");
        due(30, "four lines touch a corner, four pass it by", corners.box(0, 0, 10, 10), 15);
        due(30, "beyond the END", x.box(-9, 11, -1, 30), 0);
        refused(30, x, ARGUMENT, () -> x.box(1, 0, 0, 5));
        refused(30, x, ARGUMENT, () -> x.box(0, 1, 5, 0));
        refused(30, x, ARGUMENT, () -> x.box(-1000, 0, 5, 5));
        refused(30, x, ARGUMENT, () -> x.box(0, -1000, 5, 5));
        refused(30, x, ARGUMENT, () -> x.box(0, 0, 1000, 5));
        refused(30, x, ARGUMENT, () -> x.box(0, 0, 5, 1000));
    }

    private static void tintedOnes() {
        CrossingSweep x = of("seg 0 0 20 0 tint 1; seg 3 -3 3 3 tint 1; seg 6 -3 6 3 tint 2; seg 6 -2 6 2 tint 3;"
                + "seg 9 -9 9 9; seg 9 9 9 20 tint 3");
        int[][] want = {{1, 1, 1}, {1, 2, 1}, {2, 1, 1}, {2, 3, 1}, {0, 1, 1}, {0, 3, 1}, {2, 2, 0}, {0, 2, 0},
            {3, 3, 0}, {1, 3, 1}};
        for (int[] w : want) {
            due(31, "tinted " + w[0] + " " + w[1], x.tinted(w[0], w[1]), w[2]);
        }
        refused(31, x, ARGUMENT, () -> x.tinted(4, 0));
        refused(31, x, ARGUMENT, () -> x.tinted(0, -1));
    }

    private static void images() {
        CrossingSweep x = of("seg 0 0 1 1 tint 2");
        due(33, "none was kept", x.back(), false);
        x.add(5, 5, 5, 5, 0);
        due(33, "and nothing happened", x.back(), false);
        due(33, "it is still remembered", x.count(11), 1);
        x.image();
        due(32, "what is remembered stays", x.count(11), 1);
        x.tint(0, 3);
        tell(x, "cut 1; turn");
        put(x, "turn; x");
        Calls.outcome(x::acts);
        x.turn();
        put(x, "turn");
        due(33, "back", x.back(), true);
        due(33, "SEGMENTS", x.count(0), 2);
        due(33, "TINT", x.segment(0, 4), 2);
        due(33, "RIGHT X", x.segment(0, 2), 1);
        due(33, "CROSSINGS", x.count(2), 3);
        due(33, "none are remembered", x.count(11), 0);
        due(33, "fault() stays", x.fault(), 6);
        due(33, "the TAPE stays", x.acts(), 1);
        due(33, "again", x.back(), true);
        due(33, "as it was", x.segment(0, 2), 1);
        x.cut(0);
        x.image();
        x.turn();
        due(32, "the later one", x.back(), true);
        due(32, "alone", x.count(0), 1);
        due(32, "X", x.segment(0, 0), 5);
        CrossingSweep none = new CrossingSweep();
        none.image();
        none.add(1, 1, 1, 1, 1);
        due(32, "also of nothing", none.back(), true);
        due(32, "none", none.count(0), 0);
    }

    private static void countsAre(CrossingSweep x, int... want) {
        for (int what = 0; what < 16; what++) {
            due(34, "count " + what, x.count(what), want[what]);
        }
        due(34, "another", x.count(16), NONE);
        due(34, "another", x.count(-1), NONE);
        due(34, "another", x.count(LEAST), NONE);
        due(34, "another", x.count(MOST), NONE);
    }

    private static void counts() {
        countsAre(new CrossingSweep(), 0, 0, 0, 0, 0, 0, 1, 0, 0, NONE, NONE, 0, 0, 0, 0, 0);
        countsAre(of(STAR), 4, 1, 9, 0, 8, 1, 1, 4, 4, 3, 0, 0, 8, 6, 6, 6);
        countsAre(of(ROW), 5, 2, 8, 1, 6, 2, 1, 3, 3, 2, 1, 0, 4, 0, 4, 3);
        countsAre(of("seg 1 1 1 1"), 1, 0, 1, 0, 0, 1, 1, 0, 0, 0, 0, 0, 0, 0, 1, 0);
        // a square with both its lines from corner to corner: four faces and what is around
        CrossingSweep square = of("seg 0 0 4 0; seg 4 0 4 4; seg 4 4 0 4; seg 0 4 0 0; seg 0 0 4 4; seg 0 4 4 0");
        square.tint(5, 3);
        countsAre(square, 6, 5, 5, 0, 8, 1, 5, 3, 4, 1, 4, 1, 4, 1, 4, 13);
    }

    private static void countsOfMany() {
        // twelve level ones and twelve upright ones, all across one another
        CrossingSweep x = new CrossingSweep();
        for (int i = 0; i < 12; i++) {
            x.add(-1, 2 * i, 99, 2 * i, 0);
            x.add(2 * i, -1, 2 * i, 99, 1);
        }
        countsAre(x, 24, 144, 192, 0, 24 * 13, 1, 24 * 13 + 2 - 192, 2, 13, 12, 0, 8, 48, 144, 8, 144);
        due(16, "the last", x.crossing(143, 2), 22);
        due(20, "from end to end", x.road(0, 191), 24);
        everyTwoCross();
        blames();
    }

    /** As many EVENTS as there can be. */
    private static void everyTwoCross() {
        CrossingSweep x = new CrossingSweep();
        for (int i = 0; i < 24; i++) {
            int bow = (i - 12) * (i - 12);
            x.add(bow - 999, 83 * i - 955 + i % 2, 999 - bow, 955 - 83 * i - i * i * i % 15, 2);
        }
        int[] want = {24, 276, 324, 0, 24 * 24, 1, 24 * 24 + 2 - 324, 2, 24, 47, 0, 8, 48, 276, 46, 276};
        want[9] = firstWithAll(x);
        countsAre(x, want);
        due(16, "one behind the last", x.crossing(275, 4), 2);
        due(17, "the last", x.event(323, 5), x.event(323, 5) & -x.event(323, 5));
        due(18, "the last", x.status(323, NONE), 0);
        due(18, "all of them", x.status(x.count(9), 23) != NONE, true);
        due(19, "not yet", x.rank(0, 323), NONE);
        due(20, "from end to end", x.road(0, 323) > 1, true);
        due(21, "12 to 23 as they begin, one between, 0 to 12 as they end", x.view(NONE), 26);
        due(22, "all others", x.tied(23), (1 << 23) - 1);
        due(23, "one", x.steps(0, 23), 1);
        due(12, "CROSSINGS", x.segment(11, 6), 23);
        due(12, "PIECES", x.segment(11, 7), 24);
        due(12, "PART", x.segment(11, 8), (1 << 24) - 1);
        due(25, "the last", x.on(23, 22) != NONE, true);
        due(25, "without", x.on(23, 23), NONE);
        due(28, "none above all", x.over(0, 999), 0);
        due(30, "all", x.box(-999, -999, 999, 999), (1 << 24) - 1);
        due(31, "all are of one TINT", x.tinted(2, 2), 276);
        due(7, "one less", x.cut(5), 23);
        due(10, "turned", x.turn(), 46 + 253);
    }

    private static int firstWithAll(CrossingSweep x) {
        for (int k = 0; k < 324; k++) {
            if (x.status(k, NONE) == 24) {
                return k;
            }
        }
        return NONE;
    }

    private static void blames() {
        due(34, "who makes two", of("seg 0 0 9 0; seg 1 -1 1 1; seg 2 -2 2 2; seg 0 5 9 5").count(10), 0);
        due(34, "the last", of("seg 1 -1 1 1; seg 2 -2 2 2; seg 0 0 9 0").count(10), 2);
        due(34, "of several the least", of("seg 50 50 60 60; seg 1 -1 1 1; seg 0 0 9 0").count(10), 1);
        due(34, "of many in one point none takes it away", of("seg 0 5 9 5; seg 0 2 6 8; seg 0 8 6 2; seg 3 0 3 9;"
                + "seg 20 0 20 9; seg 19 3 21 3").count(10), 4);
        due(34, "those ALONG one another do not MEET", of("seg 5 -5 5 5; seg 0 0 9 0; seg 2 0 11 0").count(10), 0);
        due(34, "one in whose point two others MEET", of("seg 0 0 4 4; seg 0 4 4 0; seg 2 0 2 4; seg 9 9 9 9;"
                + "seg 8 9 9 9").count(10), 3);
    }
}
