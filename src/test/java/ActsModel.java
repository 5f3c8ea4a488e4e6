import java.nio.charset.StandardCharsets;
import java.util.ArrayList;
import java.util.List;
import java.util.regex.Matcher;
import java.util.regex.Pattern;

/** ACTS read from things: the text is parted first, and what may stand where is asked behind that. */
final class ActsModel {
    private static final Pattern THING = Pattern.compile("[a-z]+|[0-9]+|[^ ]");

    private record Thing(String text, int begin) {
        boolean isWord() {
            return Character.isLowerCase(text.charAt(0)) && text.charAt(0) <= 'z';
        }

        boolean isNumber() {
            return text.charAt(0) >= '0' && text.charAt(0) <= '9';
        }

        int behind() {
            return begin + text.length();
        }
    }

    private static final class Wrong extends RuntimeException {
        private static final long serialVersionUID = 1;
        final int at;

        Wrong(int at) {
            this.at = at;
        }
    }

    final List<Stretch> all;
    int done = 0;
    int fault = -1;
    private final List<Thing> things = new ArrayList<>();
    private final int length;
    private int next = 0;

    ActsModel(byte[] tape, List<Stretch> now) {
        all = new ArrayList<>(now);
        length = tape.length;
        Matcher m = Pattern.compile(THING.pattern(), Pattern.DOTALL)
                .matcher(new String(tape, StandardCharsets.ISO_8859_1));
        while (m.find()) {
            things.add(new Thing(m.group(), m.start()));
        }
        try {
            readAll();
        } catch (Wrong wrong) {
            fault = wrong.at;
        }
    }

    private void readAll() {
        if (things.isEmpty()) {
            return;
        }
        do {
            if (done == 14) {
                throw new Wrong(place());
            }
            readOne();
            done++;
        } while (goesOn());
    }

    private boolean goesOn() {
        if (next == things.size()) {
            return false;
        }
        if (!isNext(";")) {
            throw new Wrong(place());
        }
        next++;
        return true;
    }

    private void readOne() {
        int begin = place();
        String word = isWordNext() ? things.get(next).text() : "";
        switch (word) {
            case "seg" -> seg(begin);
            case "cut" -> {
                next++;
                all.remove(number(all.size() - 1));
            }
            case "move" -> move(begin);
            case "tint" -> {
                next++;
                int s = number(all.size() - 1);
                Stretch t = all.get(s);
                all.set(s, Stretch.between(t.leftX(), t.leftY(), t.rightX(), t.rightY(), number(3)));
            }
            case "turn" -> {
                next++;
                all.replaceAll(s -> Stretch.between(-s.leftY(), s.leftX(), -s.rightY(), s.rightX(), s.tint()));
            }
            default -> throw new Wrong(begin);
        }
    }

    private void seg(int begin) {
        next++;
        int x = signed();
        int y = signed();
        int otherX = signed();
        int otherY = signed();
        int tint = 0;
        if (isNext("tint")) {
            next++;
            tint = number(3);
        }
        if (all.size() == 24) {
            throw new Wrong(begin);
        }
        all.add(Stretch.between(x, y, otherX, otherY, tint));
    }

    private void move(int begin) {
        next++;
        int segment = number(all.size() - 1);
        if (!isNext("by")) {
            throw new Wrong(place());
        }
        next++;
        int byX = signed();
        int byY = signed();
        Stretch s = all.get(segment);
        int[] row = {s.leftX() + byX, s.leftY() + byY, s.rightX() + byX, s.rightY() + byY};
        for (int to : row) {
            if (to < -999 || to > 999) {
                throw new Wrong(begin);
            }
        }
        all.set(segment, Stretch.between(row[0], row[1], row[2], row[3], s.tint()));
    }

    private int signed() {
        if (!isNext("-")) {
            return number(999);
        }
        Thing sign = things.get(next);
        next++;
        boolean close = next < things.size() && things.get(next).begin() == sign.behind()
                && things.get(next).isNumber();
        if (!close) {
            throw new Wrong(sign.behind());
        }
        if (things.get(next).text().length() > 3) {
            throw new Wrong(sign.begin());
        }
        return -number(999);
    }

    private int number(int most) {
        if (next == things.size() || !things.get(next).isNumber() || things.get(next).text().length() > 3
                || Integer.parseInt(things.get(next).text()) > most) {
            throw new Wrong(place());
        }
        next++;
        return Integer.parseInt(things.get(next - 1).text());
    }

    private boolean isWordNext() {
        return next < things.size() && things.get(next).isWord();
    }

    private boolean isNext(String text) {
        return next < things.size() && things.get(next).text().equals(text);
    }

    private int place() {
        return next < things.size() ? things.get(next).begin() : length;
    }
}
