/**
 * Behind each change all that is asked is answered as by a new object with the same SEGMENTS, though much was asked
 * ahead of it: nothing of what was worked out, and nothing of a SEGMENT that was taken out, is left.
 */
public final class AsIfNewTest extends Checks {
    private static final String[] PICTURES = {
        "seg 0 0 9 0 tint 1; seg 4 0 12 0 tint 2; seg 5 -5 5 5 tint 3; seg 0 5 10 -5; seg 5 0 20 9 tint 1",
        "seg 0 0 6 6; seg 0 0 6 6 tint 1; seg 2 2 9 9 tint 1; seg 6 0 0 6 tint 2; seg 3 -4 3 8 tint 3",
        "seg 7 7 7 7; seg 7 7 7 7 tint 3; seg 0 7 9 7 tint 1; seg -5 -5 9 9; seg 20 30 40 50 tint 2",
        "seg -900 0 900 1; seg -899 1 899 0 tint 1; seg 0 -900 0 900 tint 2; seg 1 1 1 -1; seg -1 0 1 0 tint 3"};

    /** A change of an object. */
    private interface Change {
        long on(CrossingSweep x);
    }

    private AsIfNewTest() {
    }

    public static void main(String[] args) {
        for (String picture : PICTURES) {
            for (int s = 0; s < 5; s++) {
                int one = s;
                behind(7, picture, "cut " + s, x -> x.cut(one));
                behind(8, picture, "move " + s, x -> x.move(one, one == 4 ? -17 : 0, one == 2 ? 0 : -49));
                behind(8, picture, "move " + s + " a little", x -> x.move(one, 1 - one % 3, one % 2));
                behind(9, picture, "tint " + s, x -> x.tint(one, 3 - one % 4));
            }
            behind(6, picture, "add", x -> x.add(-3, 2, 11, 2, 3));
            behind(6, picture, "add a mere point", x -> x.add(5, 0, 5, 0, 1));
            behind(7, picture, "cut all", x -> x.cut(4) + x.cut(0) + x.cut(1) + x.cut(0) + x.cut(0));
            behind(7, picture, "cut four", x -> x.cut(4) + x.cut(3) + x.cut(2) + x.cut(0));
            behind(10, picture, "turn", CrossingSweep::turn);
            behind(11, picture, "turn, taken back", x -> x.turn() + x.undo());
            behind(11, picture, "cut, taken back", x -> x.cut(2) + x.count(1) + x.undo());
            behind(11, picture, "add, taken back", x -> x.add(1, 1, 9, 8, 0) + x.count(1) + x.undo());
            behind(4, picture, "a text", x -> tell(x, "cut 1; seg 1 8 9 0; move 0 by 0 -1"));
            behind(4, picture, "a text that cuts", x -> tell(x, "cut 4; cut 3; cut 0"));
            behind(4, picture, "a wrong text", AsIfNewTest::wrongText);
            behind(33, picture, "back", x -> x.cut(4) + x.turn() + (x.back() ? 1 : 0));
        }
        behindMany();
        with24();
        finish();
    }

    private static long wrongText(CrossingSweep x) {
        put(x, "cut 0; turn; cut 4");
        return Calls.outcome(x::acts).length();
    }

    private static void behind(int promise, String picture, String name, Change change) {
        CrossingSweep x = of(picture);
        x.image();
        askALittle(x);
        change.on(x);
        due(promise, "all behind " + name + " of " + picture, answers(x), answers(asNew(x)));
    }

    private static void askALittle(CrossingSweep x) {
        x.count(1);
        x.road(0, 1);
        x.hull(0, true);
        x.sight(-9, -9, 20, 20);
    }

    private static CrossingSweep asNew(CrossingSweep x) {
        CrossingSweep other = new CrossingSweep();
        for (int s = 0; s < x.count(0); s++) {
            other.add(x.segment(s, 0), x.segment(s, 1), x.segment(s, 2), x.segment(s, 3), x.segment(s, 4));
        }
        return other;
    }

    /** Most of what can be asked, in fewer calls than an object is used for; what is remembered is another thing. */
    private static String answers(CrossingSweep x) {
        StringBuilder text = new StringBuilder();
        // HULL ahead of anything that may work it out, too
        text.append("hull ").append(Calls.outcome(() -> x.hull(0, false))).append(Calls.outcome(() -> x.hull(2, true)));
        for (int what = 0; what < 16; what++) {
            text.append(' ').append(what == 11 ? 0 : x.count(what));
        }
        ofSegments(x, text);
        ofEvents(x, text);
        ofPlaces(x, text);
        return text.toString();
    }

    private static void ofSegments(CrossingSweep x, StringBuilder text) {
        int size = x.count(0);
        for (int s = 0; s < size; s++) {
            text.append("\nsegment ").append(s);
            for (int what = 5; what < 9; what++) {
                text.append(' ').append(x.segment(s, what));
            }
            text.append(" tied ").append(x.tied(s)).append(" steps ").append(x.steps(0,
                    s)).append(" on ").append(x.on(s, 0));
            text.append(' ').append(x.on(s, 1));
            for (int other = 0; other < s; other++) {
                text.append(' ').append(x.how(s, other));
            }
        }
    }

    private static void ofEvents(CrossingSweep x, StringBuilder text) {
        for (int k = 0; k < x.count(1) && k < 5; k++) {
            text.append("\ncrossing ").append(k);
            for (int what = 0; what < 7; what++) {
                text.append(' ').append(x.crossing(k, what));
            }
        }
        for (int k = 0; k < x.count(2) && k < 12; k++) {
            text.append("\nevent ").append(k);
            for (int what = 4; what < 10; what++) {
                text.append(' ').append(x.event(k, what));
            }
            text.append(" status ").append(x.status(k, NONE)).append(' ').append(x.status(k, 0)).append(" road ");
            text.append(x.road(0, k));
        }
        text.append("\nview ").append(x.view(NONE)).append(' ').append(x.view(0)).append(' ').append(x.view(1));
    }

    private static void ofPlaces(CrossingSweep x, StringBuilder text) {
        int[][] places = {{5, 0}, {7, 7}, {0, 1}, {20, 30}, {12, 0}, {3, 8}};
        text.append("\nplaces");
        for (int[] p : places) {
            text.append(' ').append(x.at(p[0], p[1])).append(' ').append(x.next(p[0], p[1], true));
            text.append(' ').append(x.next(p[0], p[1], false)).append(' ').append(x.over(p[0], p[1] - 1));
            text.append(' ').append(x.sight(p[0], p[1], 2, -3)).append(' ').append(x.box(p[0], p[1], 999, 999));
        }
        text.append(' ').append(x.box(-999, -999, 999, 999)).append(" tinted");
        for (int tint = 0; tint < 4; tint++) {
            text.append(' ').append(x.tinted(tint, 3)).append(' ').append(x.tinted(tint, tint));
        }
    }

    private static void behindMany() {
        CrossingSweep x = of(PICTURES[0]);
        for (int i = 0; i < 20; i++) {
            x.count(1);
            x.add(i, -i, 9 - i, i, i & 3);
            x.count(4);
            x.cut(i % 5);
            x.count(6);
            x.move(i % 4, 1, -1);
        }
        due(34, "all behind sixty changes", answers(x), answers(asNew(x)));
    }

    /** As many as there can be: each question goes as far as to the last of them, and no farther. */
    private static void with24() {
        CrossingSweep x = new CrossingSweep();
        for (int i = 0; i < 24; i++) {
            x.add(-20, i, 20, i, 1);
        }
        due(26, "at the last", x.at(0, 23), 1 << 23);
        due(26, "at none", x.at(0, 24), 0);
        due(27, "down to the last", x.next(0, 24, false), 23);
        due(27, "up to none", x.next(0, 23, true), NONE);
        due(28, "over the last but one", x.over(0, 22), 1);
        due(29, "the last first", x.sight(0, 30, 0, -30), 23);
        due(29, "none", x.sight(0, 30, 0, 24), NONE);
        due(30, "all", x.box(0, 0, 0, 23), (1 << 24) - 1);
        due(30, "none", x.box(0, 24, 0, 25), 0);
        due(24, "ENDS", x.hull(2, true), 23);
        due(31, "none", x.tinted(1, 1), 0);
        due(18, "the last of STATUS", x.status(23, 23), 23);
        due(18, "none behind it", x.status(23, 24), NONE);
        due(19, "its place", x.rank(23, 23), 23);
        due(21, "seen", x.view(0), 23);
        due(34, "PARTS", x.count(5), 24);
        due(34, "BLAME", x.count(10), 0);
        due(12, "its PART", x.segment(23, 8), 1 << 23);
        due(22, "TIED to none", x.tied(23), 0);
        due(23, "STEPS to itself", x.steps(23, 23), 0);
        due(23, "STEPS to another one", x.steps(0, 23), NONE);
        due(25, "on none", x.on(23, 0), NONE);
        due(17, "RIGHT", x.event(47, 5), 1 << 23);
        due(20, "ROAD along it", x.road(23, 47), 1);
        due(10, "turned", x.turn(), 48);
        due(24, "ENDS", x.hull(0, false), -23);
        x.cut(0);
        x.add(-22, -20, -1, 20, 1);
        due(31, "of one TINT", x.tinted(1, 1), 22);
        due(16, "their TINTS", x.crossing(21, 6), 2);
    }
}
