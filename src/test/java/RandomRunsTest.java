import java.math.BigInteger;
import java.nio.charset.StandardCharsets;
import java.util.ArrayList;
import java.util.Arrays;
import java.util.List;
import java.util.Random;

/** Runs of calls by chance (of fixed seeds), each answer held against the slow model's. */
public final class RandomRunsTest {
    private static final String[] WORDS = {"seg", "cut", "move", "by", "tint", "turn", ";", "-", "x", "A", "0", "1000"};
    private static final int[] ODD = {Integer.MIN_VALUE, Integer.MAX_VALUE, -1000, 1000, -1, -2, 24, 31, 32, 400};

    private final Random chance;
    private final int reach;
    private final int middle;
    private final int wanted;
    private final boolean isFan;
    private final CrossingSweep asked = new CrossingSweep();
    private final Reference model = new Reference();
    private final List<String> run = new ArrayList<>();
    private int made = 0;

    private RandomRunsTest(long seed) {
        chance = new Random(seed);
        int[] reaches = {1, 2, 3, 5, 12, 40, 300, 999};
        reach = reaches[chance.nextInt(reaches.length)];
        middle = chance.nextInt(4) == 0 ? (999 - reach) * (chance.nextBoolean() ? 1 : -1) : 0;
        isFan = seed % 20 == 0;
        int[] many = {2, 5, 8, 12, 24};
        wanted = many[chance.nextInt(many.length)];
    }

    public static void main(String[] args) {
        int runs = args.length > 0 ? Integer.parseInt(args[0]) : 300;
        long first = args.length > 1 ? Long.parseLong(args[1]) : 1;
        long calls = 0;
        for (long seed = first; seed < first + runs; seed++) {
            RandomRunsTest test = new RandomRunsTest(seed);
            if (!test.goes()) {
                System.out.println("seed " + seed + ":");
                test.run.forEach(System.out::println);
                System.exit(1);
            }
            calls += test.made;
        }
        System.out.println(runs + " runs of " + calls + " calls in all answered as the model does");
    }

    private boolean goes() {
        for (int i = 0; i < 60 + chance.nextInt(60); i++) {
            if (!changeOrTell()) {
                return false;
            }
        }
        if (isFan && !fills()) {
            return false;
        }
        int tries = wanted * 2;
        for (int i = 0; i < tries && made < 300; i++) {
            if (model.count(0) < wanted && !addOne()) {
                return false;
            }
        }
        while (made < 512) {
            if (!(chance.nextInt(9) == 0 ? changeOrTell() : question())) {
                return false;
            }
        }
        return true;
    }

    /** As many EVENTS and ENDS of HULL as there can be: each two cross, in a point of their own. */
    private boolean fills() {
        while (model.count(0) > 0) {
            if (!ask("cut", 0)) {
                return false;
            }
        }
        for (int i = 0; i < 24; i++) {
            // ENDS on a bow to the left and one to the right
            int lift = 83 * i - 955 + chance.nextInt(9);
            int bow = (i - 12) * (i - 12) + chance.nextInt(2);
            int drop = 83 * i - 955 + chance.nextInt(9);
            if (!ask("add", bow - 999, lift, 999 - bow, -drop, tintNumber())) {
                return false;
            }
        }
        return true;
    }

    private boolean ask(String name, int... numbers) {
        if (made >= 512) {
            return true;
        }
        made++;
        String due = Calls.outcome(() -> Calls.ask(model, name, numbers));
        String got = Calls.outcome(() -> Calls.ask(asked, name, numbers));
        run.add(name + Arrays.toString(numbers) + " -> " + got + (got.equals(due) ? "" : ", due is " + due));
        return got.equals(due);
    }

    private int number() {
        if (chance.nextInt(300) == 0) {
            return ODD[chance.nextInt(ODD.length)];
        }
        return middle + chance.nextInt(2 * reach + 1) - reach;
    }

    private int below(int size) {
        return chance.nextInt(60) == 0 ? ODD[chance.nextInt(ODD.length)] : chance.nextInt(Math.max(size, 1) + 1)
                - chance.nextInt(2) * chance.nextInt(2) * chance.nextInt(2);
    }

    private int one() {
        int size = model.count(0);
        return chance.nextInt(25) == 0 ? below(size) : chance.nextInt(Math.max(size, 1));
    }

    private int tintNumber() {
        return chance.nextInt(30) == 0 ? chance.nextInt(8) - 2 : chance.nextInt(4);
    }

    private boolean changeOrTell() {
        switch (chance.nextInt(13)) {
            case 0: case 1: case 2: case 3:
                return addOne();
            case 4:
                return chance.nextInt(2) == 0 ? addOne() : ask("cut", one());
            case 5:
                int far = reach / 3 + 2;
                return ask("move", one(), chance.nextInt(far) - far / 2, chance.nextInt(far) - far / 2);
            case 6:
                return ask("move", one(), number(), number());
            case 7:
                return ask("tint", one(), tintNumber());
            case 8:
                return chance.nextInt(2) == 0 ? ask("turn") : ask("undo");
            case 9:
                return chance.nextInt(3) != 0 ? ask("image") : chance.nextInt(2) != 0 || ask("back");
            case 10: case 11:
                return tellText();
            default:
                return ask("feed", chance.nextInt(), chance.nextInt(), chance.nextInt(), chance.nextInt(), 0)
                        && ask("end", below(400)) && (chance.nextInt(3) != 0 || ask("acts")) && ask("fault");
        }
    }

    /** Often upright, level, a mere point, or one that has to do with one that there is. */
    private boolean addOne() {
        int x = number();
        int y = number();
        int size = model.count(0);
        int other = size > 0 ? chance.nextInt(size) : 0;
        switch (size > 0 ? chance.nextInt(11) : 10) {
            case 0:
                return ask("add", x, y, x, number(), tintNumber());
            case 1:
                return ask("add", x, y, number(), y, tintNumber());
            case 2:
                return ask("add", x, y, x, y, tintNumber());
            case 3:
                return ask("add", model.segment(other, 2), model.segment(other, 3), x, y, tintNumber());
            case 4:
                return ask("add", model.segment(other, 0), y, model.segment(other, 0), number(), tintNumber());
            case 5:
                return ask("add", x, model.segment(other, 3), number(), model.segment(other, 3), tintNumber());
            case 6: case 7:
                return addInLine(other);
            default:
                return ask("add", x, y, number(), number(), tintNumber());
        }
    }

    private boolean addInLine(int other) {
        int x = model.segment(other, 0);
        int y = model.segment(other, 1);
        int wayX = model.segment(other, 2) - x;
        int wayY = model.segment(other, 3) - y;
        int shared = Math.max(BigInteger.valueOf(wayX).gcd(BigInteger.valueOf(wayY)).intValue(), 1);
        int from = chance.nextInt(3 * shared) - shared;
        int to = chance.nextInt(4) == 0 ? chance.nextInt(2) * shared : chance.nextInt(3 * shared) - shared;
        return ask("add", x + wayX / shared * from, y + wayY / shared * from, x + wayX / shared * to,
                y + wayY / shared * to, tintNumber());
    }

    private int boxSide(int from) {
        return chance.nextInt(5) == 0 ? number() : from + chance.nextInt(reach + 1);
    }

    private boolean askBox() {
        int x = number();
        int y = number();
        return ask("box", x, y, boxSide(x), boxSide(y));
    }

    private boolean tellText() {
        byte[] text = text().getBytes(StandardCharsets.ISO_8859_1);
        if (!ask("end", 0)) {
            return false;
        }
        for (int i = 0; i < text.length; i += 20) {
            int[] five = new int[5];
            for (int j = 0; j < 20; j++) {
                five[j / 4] = five[j / 4] << 8 | (i + j < text.length ? text[i + j] & 255 : 0);
            }
            if (!ask("feed", five)) {
                return false;
            }
        }
        return ask("end", text.length) && ask("acts") && ask("fault") && ask("count", 0) && ask("count", 11);
    }

    private String text() {
        StringBuilder text = new StringBuilder();
        int size = model.count(0);
        int acts = chance.nextInt(4) == 0 ? chance.nextInt(17) : chance.nextInt(4);
        for (int i = 0; i < acts; i++) {
            text.append(i > 0 ? ";" : "").append(blanks(false));
            switch (chance.nextInt(8)) {
                case 0: case 1: case 5: case 6:
                    text.append("seg").append(signs(4));
                    text.append(chance.nextInt(2) == 0 ? "" : blanks(false) + "tint" + blanks(false) + tintNumber());
                    size++;
                    break;
                case 2:
                    text.append("cut").append(blanks(false)).append(chance.nextInt(Math.max(size, 1)));
                    size--;
                    break;
                case 3:
                    text.append("move").append(blanks(false)).append(chance.nextInt(Math.max(size, 1)));
                    text.append(blanks(false)).append("by").append(signs(2));
                    break;
                case 4:
                    text.append("tint").append(blanks(false)).append(chance.nextInt(Math.max(size, 1)));
                    text.append(blanks(true)).append(tintNumber());
                    break;
                default:
                    text.append("turn");
            }
            text.append(blanks(false));
        }
        while (chance.nextInt(2) == 0) {
            spoil(text);
        }
        text.setLength(Math.min(text.length(), 400));
        return text.toString();
    }

    private String blanks(boolean some) {
        return " ".repeat(chance.nextInt(3) == 0 ? chance.nextInt(3) + (some ? 1 : 0) : 1);
    }

    private String signs(int many) {
        StringBuilder text = new StringBuilder();
        for (int i = 0; i < many; i++) {
            int n = number() / (chance.nextInt(3) + 1) % 1002;
            text.append(i > 0 && n >= 0 ? blanks(true) : blanks(false)).append(n);
        }
        return text.toString();
    }

    private void spoil(StringBuilder text) {
        int place = chance.nextInt(text.length() + 1);
        switch (chance.nextInt(5)) {
            case 0:
                text.insert(place, (char) chance.nextInt(256));
                break;
            case 1:
                text.insert(place, WORDS[chance.nextInt(WORDS.length)]);
                break;
            case 2:
                text.insert(place, chance.nextInt(10));
                break;
            case 3:
                text.setLength(place);
                break;
            default:
                text.delete(place, Math.min(place + 1 + chance.nextInt(3), text.length()));
        }
    }

    private boolean question() {
        int events = model.count(2);
        switch (chance.nextInt(24)) {
            case 0: return ask("segment", one(), below(8));
            case 1: return ask("how", one(), one());
            case 2: return ask("meet", one(), one(), below(3));
            case 3: return ask("along", one(), one(), below(3));
            case 4: return ask("crossing", below(model.count(1)), below(6));
            case 5: case 6: return ask("event", below(events), below(9));
            case 7: case 8: return ask("status", below(events), below(model.count(8)) - chance.nextInt(2));
            case 9: return ask("rank", one(), below(events));
            case 10: return ask("road", below(events), below(events));
            case 11: return ask("view", below(model.view(-1)) - chance.nextInt(3) / 2);
            case 12: return ask("tied", one());
            case 13: return ask("steps", one(), one());
            case 14: return ask("hull", below(model.count(14)), chance.nextInt(2));
            case 15: return ask("on", one(), below(3));
            case 16: return ask("at", number(), number());
            case 17: return ask("next", number(), number(), chance.nextInt(2));
            case 18: return ask("over", number(), number());
            case 19: return ask("sight", number(), number(), number(), number());
            case 20: return askBox();
            case 21: return ask("tinted", tintNumber(), tintNumber());
            default: return ask("count", chance.nextInt(18) - 1);
        }
    }
}
