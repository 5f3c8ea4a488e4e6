/** The TAPE and its texts (promises 2 to 5): each boundary at the last that may be and at the first that may not. */
public final class TextBoundsTest extends Checks {
    private static final String TWO = "seg -10 -20 30 40 tint 1; seg 5 5 6 6 tint 2";
    /** 24 SEGMENTS are told in two texts. */
    private static final String TWELVE = "seg 0 0 9 9;".repeat(11) + "seg 0 0 9 9";

    private TextBoundsTest() {
    }

    public static void main(String[] args) {
        promise02TwentyBytesHighestFirst();
        promise02NoMoreThan400();
        promise02BehindWhatIsThere();
        promise03ItsFirstBytes();
        promise03NoByteBehind();
        promise03NothingHappens();
        promise04AtMost14Acts();
        promise04TextsOf400Bytes();
        promise04UsesTheTapeUp();
        promise04NoneAreRemembered();
        promise04OfAWrongTextNothingStays();
        promise04OneBehindAnother();
        promise04EachAct();
        promise04BlanksAndNone();
        promise04NumbersOfThreeDigits();
        promise04TintsOfSeg();
        promise04SegmentsThatThereAre();
        promise04TintsOfTint();
        promise04AtMost24();
        promise04MovesTo999();
        promise05AheadOfAnyAndWithoutOne();
        promise05EachBeginningOfAText();
        promise05EachByte();
        promise05Words();
        promise05BehindAMinus();
        promise05TheFirstThingThatCannotStand();
        promise05TheFirstOfTwo();
        promise05ItStays();
        finish();
    }

    /** The sign ^ stands ahead of the first wrong byte. */
    private static void wrong(CrossingSweep x, String marked) {
        int place = marked.indexOf('^');
        wrongAt(x, place, marked.substring(0, place) + marked.substring(place + 1));
    }

    private static void wrong(String marked) {
        wrong(of(TWO), marked);
    }

    private static void right(String text, int acts) {
        right(of(TWO), acts, text);
    }

    private static int four(char a, char b, char c, char d) {
        return a << 24 | b << 16 | c << 8 | d;
    }

    private static void promise02TwentyBytesHighestFirst() {
        CrossingSweep x = new CrossingSweep();
        due(2, "twenty bytes", x.feed(four('s', 'e', 'g', '-'), four('1', '-', '2', ' '), four('3', ' ', '4', ' '),
                four('t', 'i', 'n', 't'), four(' ', '3', ' ', ' ')), 20);
        due(2, "all twenty are the text", x.acts(), 1);
        due(2, "in their order", ends(x), "-1 -2 3 4 3;");
        x.feed(four('t', 'u', 'r', 'n'), four(' ', ' ', ' ', ' '), four(' ', ' ', ' ', ' '), four(' ', ' ', ' ', ' '),
                four(' ', ' ', ' ', 'x'));
        refused(2, x, ARGUMENT, x::acts);
        due(2, "the last is the twentieth", x.fault(), 19);
        for (int place = 0; place < 20; place++) {
            int[] five = new int[5];
            for (int i = 0; i < 20; i++) {
                five[i / 4] = five[i / 4] << 8 | (i == place ? 0xF9 : 32);
            }
            x.feed(five[0], five[1], five[2], five[3], five[4]);
            Calls.outcome(x::acts);
            due(2, "the byte of the place", x.fault(), place);
        }
    }

    private static void promise02NoMoreThan400() {
        CrossingSweep x = new CrossingSweep();
        for (int i = 1; i <= 20; i++) {
            due(2, "how many it has", x.feed(0x20202020, 0x20202020, 0x20202020, 0x20202020, 0x20202020), 20 * i);
        }
        due(2, "400 are all", x.feed(-1, -1, -1, -1, -1), NONE);
        due(2, "none came: not one more", x.end(401), false);
        due(2, "and none is gone", x.end(400), true);
        due(2, "381 are there", x.end(381), true);
        due(2, "it would have 401", x.feed(-1, -1, -1, -1, -1), NONE);
        due(2, "none came: not one more", x.end(382), false);
        due(2, "380 are there", x.end(380), true);
        due(2, "it has 400", x.feed(0x20202020, 0x20202020, 0x20202020, 0x20202020, 0x20202020), 400);
        due(2, "again", x.feed(-1, -1, -1, -1, -1), NONE);
        due(2, "those that came are as they were", x.acts(), 0);
        due(2, "behind an emptied TAPE", x.feed(-1, -1, -1, -1, -1), 20);
    }

    private static void promise02BehindWhatIsThere() {
        CrossingSweep x = of(TWO);
        put(x, "cut 1;turn");
        x.feed(four(';', 't', 'i', 'n'), four('t', ' ', '0', ' '), four('3', ' ', ' ', ' '), 0x20202020, 0x20202020);
        due(2, "both parts are one text", x.acts(), 3);
        due(2, "done", ends(x), "-40 30 20 -10 3;");
    }

    private static void promise03ItsFirstBytes() {
        CrossingSweep x = of(TWO);
        due(3, "of none the first none", x.end(0), true);
        due(3, "of none the first one", x.end(1), false);
        put(x, "cut 1;cut 0;turn;;");
        due(3, "all of them", x.end(18), true);
        due(3, "one more than there are", x.end(19), false);
        due(3, "one less", x.end(17), true);
        due(3, "that is gone", x.end(18), false);
        due(3, "far less", x.end(5), true);
        due(3, "the first are left", x.acts(), 1);
        due(3, "and done", x.count(0), 1);
        put(x, "turn");
        due(3, "none", x.end(0), true);
        due(3, "are left", x.end(1), false);
        due(3, "an empty text", x.acts(), 0);
    }

    private static void promise03NoByteBehind() {
        String[][] texts = {{"seg 1 2 3", "-4"}, {"seg 1 2 3 ", "-4"}, {"cut ", "0"}, {"move 0 by 1", " 1"},
            {"tint 0 ", "1"},
            {"turn;", "turn"}, {"seg 1 2 -", "3 4"}, {"seg 1 2 3 4 tint", " 1"}};
        for (String[] text : texts) {
            CrossingSweep x = of(TWO);
            put(x, text[0] + text[1]);
            x.end(text[0].length());
            refused(3, x, ARGUMENT, x::acts);
            due(3, "'" + text[0] + "' alone", x.fault(), text[0].length());
        }
        CrossingSweep x = of(TWO);
        put(x, "turn;x");
        x.end(4);
        due(3, "the wrong ones are gone", x.acts(), 1);
        put(x, "cut 01");
        x.end(5);
        due(3, "the number's last is gone", x.acts() + x.count(0), 2);
    }

    private static void promise03NothingHappens() {
        CrossingSweep x = of(TWO);
        put(x, "cut 1;turn");
        for (int n : new int[] {-1, -2, LEAST, 11, 12, 400, 401, MOST}) {
            due(3, "the first " + n, x.end(n), false);
        }
        due(3, "all are there", x.end(10), true);
        due(3, "as they were", x.acts(), 2);
    }

    private static void promise04AtMost14Acts() {
        right("turn;".repeat(13) + "turn", 14);
        right(" turn ;".repeat(13) + " turn ", 14);
        String all = "turn;".repeat(13) + "turn";
        for (String more : new String[] {";^turn", ";  ^turn", " ;^cut 99", ";^x", ";^9", ";^;", ";^-", ";^T",
            ";^turn;turn",
            ";   ^turnx", ";^\u00fc", ";^", ";  ^"}) {
            wrong(all + more);
        }
        wrong(all + " ^x");
        wrong(all + "^9");
        wrong(all.substring(0, 65) + "^turnx");
        wrong("turn;".repeat(13) + "^x");
    }

    private static void promise04TextsOf400Bytes() {
        String seg = "seg-999-999-999-999tint3";
        String all = (seg + ";").repeat(13) + seg;
        CrossingSweep x = new CrossingSweep();
        right(x, 14, all + " ".repeat(400 - all.length()));
        due(4, "all are there", x.count(0), 14);
        right(x, 0, " ".repeat(400));
        right(x, 1, " ".repeat(396) + "turn");
        wrong(x, " ".repeat(399) + "^x");
        wrong(x, " ".repeat(397) + "^tur");
        wrong(x, "turn;" + " ".repeat(395) + "^");
        wrong(x, " ".repeat(397) + "cut^");
        wrong(x, " ".repeat(390) + "seg 0 0 0-^");
        wrong(x, " ".repeat(395) + "turn;^");
    }

    private static void promise04UsesTheTapeUp() {
        CrossingSweep x = of(TWO);
        due(4, "behind a right text", x.end(1), false);
        wrong(x, "turn;^x");
        due(4, "behind a wrong text", x.end(1), false);
        due(4, "an empty one is right", x.acts(), 0);
        due(4, "and again", x.acts(), 0);
        due(4, "from the begin on", x.feed(0, 0, 0, 0, 0), 20);
    }

    private static void promise04NoneAreRemembered() {
        for (String text : new String[] {"", " ", "turn", "cut 0; cut 0", "tint 0 1", "move 0 by 0 0"}) {
            CrossingSweep x = of(TWO);
            x.turn();
            x.tint(0, 0);
            due(4, "two are remembered", x.count(11), 2);
            tell(x, text);
            due(4, "none behind '" + text + "'", x.count(11), 0);
            refused(11, x, STATE, x::undo);
            x.add(0, 0, 1, 1, 0);
            due(4, "then one", x.count(11), 1);
            int segments = x.count(0);
            due(11, "back to the text's", x.undo(), 0);
            due(11, "that is all", x.count(0), segments - 1);
        }
    }

    private static void promise04OfAWrongTextNothingStays() {
        for (String marked : new String[] {"cut 0;tint 0 0;turn;^x",
            "seg 9 9 9 9;seg 8 8 8 8;turn;move 0 by 1 1;cut ^4",
            "turn;^move 0 by 990 0", "turn;^;", "turn;^", "cut 1;cut 0;cut ^0", "move 0 by 1 1;tint 0 ^4",
            "tint 0 3;move 0 by 1^;"}) {
            CrossingSweep x = of("seg -10 -20 30 40 tint 1");
            x.image();
            x.add(5, 5, 6, 6, 2);
            String ahead = ends(x);
            wrong(x, marked);
            due(4, "SEGMENTS behind " + marked, ends(x), ahead);
            due(4, "what is remembered", x.undo(), 0);
            due(4, "as it was", ends(x), "-10 -20 30 40 1;");
            due(4, "THE IMAGE", x.back(), true);
            due(4, "as it was", ends(x), "-10 -20 30 40 1;");
        }
    }

    private static void promise04OneBehindAnother() {
        CrossingSweep x = of(TWO);
        wrong(x, "cut 1; cut ^1");
        wrong(x, "cut 0; cut 0; turn; cut ^0");
        wrong(x, "seg 1 1 2 2; cut ^3");
        right(x, 2, "seg 1 1 2 2 tint 3; cut 2");
        right(x, 4, "seg 1 1 2 2; tint 2 3; cut 0; move 1 by 1 0");
        due(4, "numbers of those behind are one less", ends(x), "5 5 6 6 2;2 1 3 2 3;");
        right(x, 2, "turn; move 0 by 0 990");
        due(4, "in their order", ends(x), "-6 996 -5 995 2;-2 3 -1 2 3;");
        wrong(x, "turn; ^move 0 by -4 0");
        right(x, 3, "turn; move 0 by -3 0; turn");
        due(4, "in their order", ends(x), "5 -998 6 -999 2;1 -2 2 -3 3;");
    }

    private static void promise04EachAct() {
        CrossingSweep x = new CrossingSweep();
        right(x, 1, "seg 3 -4 -5 6");
        due(4, "TINT 0 without; LEFT is of the lesser X", ends(x), "-5 6 3 -4 0;");
        right(x, 1, "seg 7 9 7 8 tint 2");
        due(4, "of like X of the lesser Y", ends(x), "-5 6 3 -4 0;7 8 7 9 2;");
        right(x, 1, "move 0 by 10 -20");
        due(4, "both ENDS are moved", ends(x), "5 -14 13 -24 0;7 8 7 9 2;");
        right(x, 1, "tint 0 1");
        due(4, "its TINT alone", ends(x), "5 -14 13 -24 1;7 8 7 9 2;");
        right(x, 1, "turn");
        due(4, "X is -Y, Y is X", ends(x), "14 5 24 13 1;-9 7 -8 7 2;");
        right(x, 1, "seg 1 1 1 1");
        due(4, "a mere point", x.segment(2, 5), 0);
        right(x, 1, "cut 0");
        due(4, "one is taken out", ends(x), "-9 7 -8 7 2;1 1 1 1 0;");
    }

    private static void promise04BlanksAndNone() {
        right("seg-1-2-3-4tint1;seg 1-2 3-4;move 0by-1-1;move 1by 1 1;tint 0 1;turn;cut 0", 7);
        right("   seg   1   -2   3   4   tint   1   ;   move   0   by   1   1   ;   turn   ", 3);
        right("move0by1 1;tint1 1;cut1;seg1 1 1 1", 4);
        right("seg 1 2 3 4tint 1", 1);
        right("", 0);
        right(" ", 0);
        right("                        ", 0);
        right(" turn", 1);
        right("turn ", 1);
        right("turn ; turn", 2);
        wrong("^;");
        wrong(" ^; turn");
        wrong("turn ^turn");
        wrong("turn;^;turn");
        wrong("turn; ^; turn");
        wrong("turn;^");
        wrong("turn; ^");
        wrong("^s eg 1 2 3 4");
        wrong("seg 1 2 3 4 ^ti nt 1");
        wrong("move 0 ^b y 1 1");
        wrong("tint 0 1 ^0");
    }

    private static String seg(int place, String number) {
        StringBuilder text = new StringBuilder("seg");
        for (int i = 0; i < 4; i++) {
            text.append(' ').append(i == place ? number : "1");
        }
        return text.toString();
    }

    private static void promise04NumbersOfThreeDigits() {
        String[] good = {"0", "7", "00", "99", "000", "007", "999", "-0", "-7", "-00", "-99", "-000", "-007", "-999"};
        int[] worth = {0, 7, 0, 99, 0, 7, 999, 0, -7, 0, -99, 0, -7, -999};
        String[] bad = {"0000", "0001", "1000", "9999", "-0000", "-0999", "-1000", "00000000000000000000",
            "99999999999999999999", "4294967297", "-4294967297", "2147483648"};
        for (int place = 0; place < 4; place++) {
            for (int i = 0; i < good.length; i++) {
                CrossingSweep x = new CrossingSweep();
                right(x, 1, seg(place, good[i]));
                // the other END is 1 1
                due(4, seg(place, good[i]), x.segment(0, (worth[i] < 1 ? 0 : 2) + place % 2), worth[i]);
            }
            for (String number : bad) {
                wrong(new CrossingSweep(), seg(place, "^" + number));
            }
        }
        for (int i = 0; i < good.length; i++) {
            CrossingSweep x = of("seg 0 0 0 0");
            right(x, 2, "move 0 by " + good[i] + " 0; move 0 by 0 " + good[i]);
            String at = worth[i] + " " + worth[i] + " ";
            due(4, "moved by " + good[i], ends(x), at + at + "0;");
        }
        for (String number : bad) {
            wrong("move 0 by ^" + number + " 1");
            wrong("move 0 by 1 ^" + number);
        }
    }

    private static void promise04TintsOfSeg() {
        String[] good = {"0", "1", "2", "3", "00", "03", "000", "003"};
        for (String tint : good) {
            CrossingSweep x = new CrossingSweep();
            right(x, 1, "seg 1 1 2 2 tint " + tint);
            due(4, "TINT " + tint, x.segment(0, 4), tint.charAt(tint.length() - 1) - '0');
        }
        for (String tint : new String[] {"4", "9", "04", "10", "13", "004", "100", "999", "0000", "0003", "-0", "-1",
            "x",
            ";", "- 1"}) {
            wrong("seg 1 1 2 2 tint ^" + tint);
        }
    }

    private static void promise04SegmentsThatThereAre() {
        for (String act : new String[] {"cut %", "move % by 1 1", "tint % 1"}) {
            for (String number : new String[] {"0", "1", "00", "01", "000", "001"}) {
                right(act.replace("%", number), 1);
            }
            for (String number : new String[] {"2", "02", "002", "10", "999", "0000", "0001", "1000", "-0", "-1", "x",
                ";"}) {
                wrong(act.replace("%", "^" + number));
            }
            wrong(new CrossingSweep(), act.replace("%", "^0"));
            CrossingSweep full = of(TWELVE);
            tell(full, TWELVE);
            right(full, 1, act.replace("%", "23"));
            wrong(full, act.replace("%", "^24"));
        }
    }

    private static void promise04TintsOfTint() {
        for (String tint : new String[] {"0", "1", "2", "3", "03", "003"}) {
            CrossingSweep x = of(TWO);
            right(x, 1, "tint 1 " + tint);
            due(4, "TINT " + tint, x.segment(1, 4), tint.charAt(tint.length() - 1) - '0');
            due(4, "the other one's", x.segment(0, 4), 1);
        }
        for (String tint : new String[] {"4", "04", "999", "0000", "-0", "-1", "x", ";"}) {
            wrong("tint 1 ^" + tint);
        }
    }

    private static void promise04AtMost24() {
        CrossingSweep x = of(TWELVE);
        right(x, 12, TWELVE);
        due(4, "24 may be", x.count(0), 24);
        wrong(x, "^seg 0 0 9 9");
        wrong(x, "  ^seg 0 0 9 9 tint 3 ");
        wrong(x, "turn; tint 0 1 ;  ^seg 0 0 9 9 ; turn");
        wrong(x, "cut 0; seg 0 0 9 9; ^seg 0 0 9 9");
        // it is read whole first
        wrong(x, "seg 0 0 9 ^1000");
        wrong(x, "seg 0 0 9 9 tint ^4");
        wrong(x, "seg 0 0 9 9 tint^");
        wrong(x, "seg 0 0 9^");
        wrong(x, "seg 0 0 9 -^x");
        due(4, "still 24", x.count(0), 24);
        right(x, 3, "cut 23; cut 0; seg 0 0 9 9 tint 1");
        due(4, "23", x.count(0), 23);
        right(x, 1, "seg 0 0 9 9 tint 2");
        due(4, "24", x.count(0), 24);
        due(4, "the last is the last told", x.segment(23, 4), 2);
        CrossingSweep byHand = of(TWELVE);
        for (int i = 12; i < 24; i++) {
            byHand.add(0, 0, 9, 9, 0);
        }
        wrong(byHand, "^seg 0 0 9 9");
    }

    private static void promise04MovesTo999() {
        String[] good = {"969 0", "-989 0", "0 959", "0 -979", "969 959", "-989 -979", "0 0"};
        for (String by : good) {
            right("move 0 by " + by, 1);
        }
        String[] bad = {"970 0", "-990 0", "0 960", "0 -980", "999 0", "-999 0", "0 999", "0 -999", "969 960",
            "970 959"};
        for (String by : bad) {
            wrong("^move 0 by " + by);
            wrong(" tint 0 1;  ^move 0 by " + by + " ; turn");
        }
        CrossingSweep x = of("seg -999 -999 -999 -999");
        right(x, 2, "move 0 by 999 999; move 0 by 999 999");
        due(4, "from bound to bound", ends(x), "999 999 999 999 0;");
        wrong(x, "^move 0 by 1 0");
        wrong(x, "^move 0 by 0 1");
        right(x, 3, "move 0 by -999 -999; move 0 by -999 0; move 0 by 0 -999");
        wrong(x, "^move 0 by -1 0");
        wrong(x, "^move 0 by 0 -1");
        // it is read whole first
        wrong(x, "move 0 by -1 ^1000");
        wrong(x, "move 0 by -1^");
        wrong(x, "move 0 by -1 -^");
        wrong(x, "move ^1 by -1 -1");
    }

    private static void promise05AheadOfAnyAndWithoutOne() {
        CrossingSweep x = new CrossingSweep();
        due(5, "ahead of any", x.fault(), NONE);
        put(x, "x");
        due(5, "of one that was not read", x.fault(), NONE);
        Calls.outcome(x::acts);
        due(5, "the first byte", x.fault(), 0);
        right(x, 1, "turn");
        wrong(x, "turn;^x");
        right(x, 0, "");
        wrong(x, "turn;turn;^x");
        right(x, 0, "  ");
    }

    /**
     * Each beginning of a right text: right (r), more must come (m), or with a word that is none at its end (w).
     */
    private static void promise05EachBeginningOfAText() {
        String text = "seg -1 2 3 -4 tint 1 ;move 0 by -5 6; tint 0 2;turn;cut 0";
        String kind = "wwmmmmmmmmmmrrwwwmmrrmwwwmmmmwmmmmmrmmwwwmmmmrmwwwrmwwmmr";
        due(4, "as many kinds as bytes", kind.length(), text.length());
        for (int n = 1; n <= text.length(); n++) {
            String part = text.substring(0, n);
            CrossingSweep x = new CrossingSweep();
            switch (kind.charAt(n - 1)) {
                case 'r' -> right(x, part.split(";").length, part);
                case 'm' -> wrongAt(x, n, part);
                default -> wrongAt(x, Math.max(part.lastIndexOf(' '), part.lastIndexOf(';')) + 1, part);
            }
        }
    }

    private static void promise05EachByte() {
        for (int b = 0; b < 256; b++) {
            char sign = (char) b;
            boolean isLetter = b >= 'a' && b <= 'z';
            boolean isDigit = b >= '0' && b <= '9';
            boolean isBlank = b == 32;
            byteIs("turn", sign, "", isBlank ? NONE : isLetter ? 0 : b == ';' ? 5 : 4);
            byteIs("", sign, "turn", isBlank ? NONE : 0);
            byteIs("turn;", sign, "turn", isBlank ? NONE : 5);
            byteIs("cut 0", sign, "", isBlank || b == '0' || b == '1' ? NONE : isDigit ? 4 : b == ';' ? 6 : 5);
            byteIs("seg 1 2 3 -", sign, "", isDigit ? NONE : 11);
            byteIs("seg 1 2 3", sign, "4", isBlank || b == '-' ? NONE : isDigit ? 11 : 9);
            byteIs("seg", sign, "1 2 3 4", isBlank || b == '-' || isDigit ? NONE : isLetter ? 0 : 3);
        }
    }

    private static void byteIs(String ahead, char sign, String behind, int place) {
        CrossingSweep x = of(TWO);
        String text = ahead + sign + behind;
        if (ahead.equals("seg") && sign >= '0' && sign <= '9') {
            // the digit goes on in the number behind it
            right(x, 1, text);
        } else if (place == NONE) {
            right(x, ahead.equals("turn;") ? 2 : 1, text);
        } else {
            wrongAt(x, place, text);
        }
    }

    private static void promise05Words() {
        String[][] acts = {{"seg", " 1 2 3 4"}, {"cut", " 0"}, {"move", " 0 by 1 1"}, {"tint", " 0 1"}, {"turn", ""}};
        for (String[] act : acts) {
            String word = act[0];
            String rest = act[1];
            right(word + rest, 1);
            wrong("^" + word.substring(0, word.length() - 1) + rest);
            wrong("^" + word.substring(1) + rest);
            wrong("^" + word.charAt(0) + rest);
            wrong("^" + word + "a" + rest);
            wrong("^" + word + "z" + rest);
            wrong("^" + word + word + rest);
            wrong("^a" + word + rest);
            wrong("^" + word.toUpperCase() + rest);
            wrong(word + "^`" + rest);
            wrong(word + "^{" + rest);
            wrong(word + "^A" + rest);
        }
        for (String word : new String[] {"b", "byx", "y", "to", "seg", "bby", "BY"}) {
            wrong("move 0 ^" + word + " 1 1");
        }
        wrong("move 0 by ^by 1 1");
        for (String word : new String[] {"t", "tin", "tints", "turn", "cut", "by", "atint", "TINT"}) {
            wrong("seg 1 2 3 4 ^" + word + " 1");
        }
        wrong("move 0 ^1 1");
        wrong("move 0 ^-1 1");
        wrong("move 0 ^; by");
    }

    private static void promise05BehindAMinus() {
        wrong("seg -^ 1 2 3 4");
        wrong("seg -^-1 2 3 4");
        wrong("seg -^x");
        wrong("seg -^;");
        wrong("seg -^");
        wrong("seg 1 -^ ");
        wrong("seg 1 2 -^  3");
        wrong("seg 1 2 3 -^tint 1");
        wrong("move 0 by -^ 1 1");
        wrong("move 0 by 1 -^");
        wrong("move 0 by 1 -^by");
        wrong("cut ^-1");
        wrong("cut ^-");
        wrong("tint 0 ^-");
        wrong("tint ^-0 1");
        wrong("seg 1 2 3 4 ^-");
        wrong("^-");
    }

    private static void promise05TheFirstThingThatCannotStand() {
        wrong("seg 1 2 3 4 ^5");
        wrong("seg 1 2 3 4 tint 1 ^tint 1");
        wrong("seg 1 2 3 4 tint 1 ^1");
        wrong("seg 1 2 3 ^;");
        wrong("seg ^1000 1000 1000 1000");
        wrong("seg 1 ^-1000 x");
        wrong("cut ^9; x");
        wrong("cut 0 ^0");
        wrong("cut 0 ^cut 0");
        wrong("move ^9 x");
        wrong("move 0 ^x 1000");
        wrong("move 0 by 1 1 ^1");
        wrong("tint ^9 9");
        wrong("tint 0 ^9 x");
        wrong("tint 0 0^, turn");
        wrong("turn ^1");
        wrong("turn;^;");
        wrong("^1");
        wrong("turn^1x");
        wrong("^\u0000");
        wrong("^\u00e4");
        wrong("turn^\u0000");
    }

    private static void promise05TheFirstOfTwo() {
        wrong("turn;^;x");
        wrong("^;;");
        wrong("^x;y");
        wrong("cut ^2; cut 2");
        wrong("tint ^2 4");
        wrong("tint 0 ^4; x");
        wrong("seg 1 2 3 ^1000 tint 4");
        wrong("seg 1 2 3 4 tint ^4; x");
        wrong("^move 0 by 999 0; x");
        wrong("^move 0 by 999 0; move 0 by 999 0");
        wrong("move 0 by ^1000 1000");
        wrong("move 0 ^x 1 1; x");
        wrong("seg -^ -");
        CrossingSweep full = of(TWELVE);
        tell(full, TWELVE);
        wrong(full, "^seg 0 0 9 9; x");
        wrong(full, "^seg 0 0 9 9; seg 0 0 9 9");
        wrong(full, "^seg 0 0 9 9;");
        wrong(full, "turn; ^seg 0 0 9 9;;");
        wrong(full, "turn;".repeat(13) + "^seg 0 0 9 9; turn");
    }

    private static void promise05ItStays() {
        CrossingSweep x = of(TWO);
        wrong(x, "turn; ^x");
        x.add(0, 0, 1, 1, 0);
        x.turn();
        x.undo();
        x.image();
        x.tint(0, 0);
        x.back();
        x.move(0, 1, 1);
        x.cut(0);
        Calls.outcome(() -> x.cut(9));
        x.feed(0, 0, 0, 0, 0);
        x.end(0);
        x.count(1);
        due(5, "until the next text is read", x.fault(), 6);
        due(5, "asking does not change it", x.fault(), 6);
        wrong(x, "^x");
        wrong(x, "turn;^");
    }
}
