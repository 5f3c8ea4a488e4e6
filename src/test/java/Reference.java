import java.math.BigInteger;
import java.util.ArrayDeque;
import java.util.ArrayList;
import java.util.Arrays;
import java.util.Comparator;
import java.util.HashMap;
import java.util.HashSet;
import java.util.List;
import java.util.Map;
import java.util.NoSuchElementException;
import java.util.Set;
import java.util.TreeSet;

/** The document done slowly, word for word, with numbers of any length: what the class is held against. */
final class Reference {
    private static final int NONE = -1;

    private List<Stretch> all = new ArrayList<>();
    private List<Stretch> image = null;
    private final ArrayDeque<List<Stretch>> remembered = new ArrayDeque<>();
    private byte[] tape = new byte[0];
    private int fault = NONE;
    private List<Spot> eventsNow = null;
    private List<Spot> crossingsNow = null;
    private Set<List<Integer>> edgesNow = null;
    private final Map<List<Stretch>, List<Spot>> sharedNow = new HashMap<>();

    int feed(int a, int b, int c, int d, int e) {
        if (tape.length + 20 > 400) {
            return NONE;
        }
        int behind = tape.length;
        tape = Arrays.copyOf(tape, behind + 20);
        for (int word : new int[] {a, b, c, d, e}) {
            byte[] four = BigInteger.valueOf(word & 0xFFFFFFFFL | 1L << 40).toByteArray();
            System.arraycopy(four, four.length - 4, tape, behind, 4);
            behind += 4;
        }
        return tape.length;
    }

    boolean end(int n) {
        if (n < 0 || n > tape.length) {
            return false;
        }
        tape = Arrays.copyOf(tape, n);
        return true;
    }

    int acts() {
        ActsModel model = new ActsModel(tape, all);
        tape = new byte[0];
        fault = model.fault;
        if (fault != NONE) {
            throw new IllegalArgumentException();
        }
        remembered.clear();
        become(model.all);
        return model.done;
    }

    int fault() {
        return fault;
    }

    int add(int x, int y, int otherX, int otherY, int tint) {
        point(x, y);
        point(otherX, otherY);
        tintIs(tint);
        if (all.size() == 24) {
            throw new IllegalStateException();
        }
        remember();
        all.add(Stretch.between(x, y, otherX, otherY, tint));
        return all.size() - 1;
    }

    int cut(int segment) {
        one(segment);
        int ahead = crossings().size();
        remember();
        all.remove(segment);
        return ahead - crossings().size();
    }

    int move(int segment, int byX, int byY) {
        Stretch s = one(segment);
        for (long to : new long[] {(long) s.leftX() + byX, (long) s.rightX() + byX, (long) s.leftY() + byY,
                (long) s.rightY() + byY}) {
            if (Math.abs(to) > 999) {
                throw new IllegalArgumentException();
            }
        }
        remember();
        all.set(segment, Stretch.between(s.leftX() + byX, s.leftY() + byY, s.rightX() + byX, s.rightY() + byY,
                s.tint()));
        return crossings().size();
    }

    int tint(int segment, int tint) {
        Stretch s = one(segment);
        tintIs(tint);
        remember();
        all.set(segment, new Stretch(s.leftX(), s.leftY(), s.rightX(), s.rightY(), tint));
        return s.tint();
    }

    int turn() {
        remember();
        all.replaceAll(s -> Stretch.between(-s.leftY(), s.leftX(), -s.rightY(), s.rightX(), s.tint()));
        return events().size();
    }

    int undo() {
        if (remembered.isEmpty()) {
            throw new IllegalStateException();
        }
        become(remembered.removeLast());
        return remembered.size();
    }

    int segment(int segment, int what) {
        Stretch s = one(segment);
        return switch (what) {
            case 0 -> s.leftX();
            case 1 -> s.leftY();
            case 2 -> s.rightX();
            case 3 -> s.rightY();
            case 4 -> s.tint();
            case 5 -> s.isPoint() ? 0 : s.isUpright() ? 1 : s.leftY() == s.rightY() ? 2 : 3;
            case 6 -> (int) crossings().stream().filter(s::has).count();
            case 7 -> eventsOn(s).size() - 1;
            case 8 -> bits(part(segment));
            default -> throw new NoSuchElementException();
        };
    }

    int how(int segment, int other) {
        Stretch s = one(segment);
        Stretch t = one(other);
        unlike(segment, other);
        List<Spot> shared = s.shared(t);
        if (s.left().equals(t.left()) && s.right().equals(t.right())) {
            return 4;
        }
        if (shared.size() != 1) {
            return shared.size() > 1 ? 3 : 0;
        }
        return s.endsIn(shared.get(0)) || t.endsIn(shared.get(0)) ? 1 : 2;
    }

    long meet(int segment, int other, int what) {
        Stretch s = one(segment);
        Stretch t = one(other);
        question(what, 4);
        unlike(segment, other);
        List<Spot> shared = s.shared(t);
        if (shared.size() != 1) {
            throw new IllegalStateException();
        }
        return number(shared.get(0), what);
    }

    int along(int segment, int other, int what) {
        Stretch s = one(segment);
        Stretch t = one(other);
        question(what, 4);
        unlike(segment, other);
        List<Spot> shared = s.shared(t);
        if (shared.size() < 2) {
            throw new IllegalStateException();
        }
        Spot p = shared.get(what / 2);
        return (what % 2 == 0 ? p.x() : p.y()).upper.intValueExact();
    }

    long crossing(int k, int what) {
        place(k, crossings().size());
        question(what, 7);
        Spot p = crossings().get(k);
        return switch (what) {
            case 4 -> bundle(p).size();
            case 5 -> bits(bundle(p));
            case 6 -> bits(bundle(p).stream().map(s -> all.get(s).tint()).toList());
            default -> number(p, what);
        };
    }

    long event(int k, int what) {
        place(k, events().size());
        question(what, 10);
        Spot p = events().get(k);
        return switch (what) {
            case 4 -> bits(bundle(p).stream().filter(s -> all.get(s).left().equals(p)).toList());
            case 5 -> bits(bundle(p).stream().filter(s -> all.get(s).right().equals(p)).toList());
            case 6 -> bits(bundle(p).stream().filter(s -> !all.get(s).endsIn(p)).toList());
            case 7 -> crossings().indexOf(p);
            case 8 -> spread(p);
            case 9 -> degree(k);
            default -> number(p, what);
        };
    }

    int status(int k, int i) {
        place(k, events().size());
        List<Integer> status = statusBehind(k);
        if (i == NONE) {
            return status.size();
        }
        return i >= 0 && i < status.size() ? status.get(i) : NONE;
    }

    int rank(int segment, int k) {
        one(segment);
        place(k, events().size());
        return statusBehind(k).indexOf(segment);
    }

    int road(int k, int other) {
        place(k, events().size());
        place(other, events().size());
        Set<List<Integer>> edges = edges();
        Set<Integer> reached = new HashSet<>(Set.of(k));
        for (int far = 0; far <= events().size(); far++) {
            if (reached.contains(other)) {
                return far;
            }
            Set<Integer> more = new HashSet<>(reached);
            for (List<Integer> edge : edges) {
                if (reached.contains(edge.get(0)) || reached.contains(edge.get(1))) {
                    more.addAll(edge);
                }
            }
            reached = more;
        }
        return NONE;
    }

    int view(int k) {
        List<Integer> seen = new ArrayList<>();
        TreeSet<Frac> columns = new TreeSet<>();
        events().forEach(p -> columns.add(p.x()));
        for (Frac x : columns) {
            if (x.equals(columns.last())) {
                break;
            }
            int last = NONE;
            for (int e = 0; e < events().size(); e++) {
                last = events().get(e).x().equals(x) ? e : last;
            }
            List<Integer> status = statusBehind(last);
            int top = status.isEmpty() ? NONE : status.get(status.size() - 1);
            if (seen.isEmpty() || seen.get(seen.size() - 1) != top) {
                seen.add(top);
            }
        }
        if (k == NONE) {
            return seen.size();
        }
        return k >= 0 && k < seen.size() ? seen.get(k) : NONE;
    }

    int tied(int segment) {
        one(segment);
        return bits(tiedTo(segment));
    }

    int steps(int segment, int other) {
        one(segment);
        one(other);
        Set<Integer> reached = new HashSet<>(Set.of(segment));
        for (int far = 0; far <= all.size(); far++) {
            if (reached.contains(other)) {
                return far;
            }
            for (int s : List.copyOf(reached)) {
                reached.addAll(tiedTo(s));
            }
        }
        return NONE;
    }

    int hull(int k, boolean y) {
        List<Spot> bounds = bounds();
        place(k, bounds.size());
        Spot p = bounds.get(k);
        return (y ? p.y() : p.x()).upper.intValueExact();
    }

    int on(int segment, int k) {
        Stretch s = one(segment);
        List<Integer> found = new ArrayList<>();
        for (int c = 0; c < crossings().size(); c++) {
            if (s.has(crossings().get(c))) {
                found.add(c);
            }
        }
        return k >= 0 && k < found.size() ? found.get(k) : NONE;
    }

    int at(int x, int y) {
        point(x, y);
        return bits(bundle(Spot.of(x, y)));
    }

    int next(int x, int y, boolean up) {
        point(x, y);
        Stretch way = Stretch.between(x, y, x, up ? 5000 : -5000, 0);
        return nearestOn(way, Spot.of(x, y), true);
    }

    int over(int x, int y) {
        point(x, y);
        int found = 0;
        for (Stretch s : all) {
            boolean spans = !s.isUpright() && !s.isPoint() && s.leftX() <= x && s.rightX() > x;
            if (spans && s.heightAt(Frac.of(x)).compareTo(Frac.of(y)) > 0) {
                found++;
            }
        }
        return found;
    }

    int sight(int x, int y, int toX, int toY) {
        point(x, y);
        point(toX, toY);
        return nearestOn(Stretch.between(x, y, toX, toY, 0), Spot.of(x, y), false);
    }

    int box(int x, int y, int toX, int toY) {
        point(x, y);
        point(toX, toY);
        if (x > toX || y > toY) {
            throw new IllegalArgumentException();
        }
        List<Stretch> sides = List.of(Stretch.between(x, y, toX, y, 0), Stretch.between(toX, y, toX, toY, 0),
                Stretch.between(toX, toY, x, toY, 0), Stretch.between(x, toY, x, y, 0));
        List<Integer> found = new ArrayList<>();
        for (int s = 0; s < all.size(); s++) {
            Stretch t = all.get(s);
            boolean inside = t.leftX() >= x && t.leftX() <= toX && t.leftY() >= y && t.leftY() <= toY;
            if (inside || sides.stream().anyMatch(side -> !side.shared(t).isEmpty())) {
                found.add(s);
            }
        }
        return bits(found);
    }

    int tinted(int tint, int other) {
        tintIs(tint);
        tintIs(other);
        int found = 0;
        for (Spot p : crossings()) {
            boolean two = false;
            for (int s : bundle(p)) {
                for (int t : bundle(p)) {
                    two |= s != t && all.get(s).tint() == tint && all.get(t).tint() == other;
                }
            }
            found += two ? 1 : 0;
        }
        return found;
    }

    void image() {
        image = List.copyOf(all);
    }

    boolean back() {
        if (image == null) {
            return false;
        }
        remembered.clear();
        become(image);
        return true;
    }

    int count(int what) {
        return switch (what) {
            case 0 -> all.size();
            case 1 -> crossings().size();
            case 2 -> events().size();
            case 3 -> pairsWith(2);
            case 4 -> edges().size();
            case 5 -> parts();
            case 6 -> edges().size() + parts() + 1 - events().size();
            case 7 -> crossings().stream().mapToInt(p -> bundle(p).size()).max().orElse(0);
            case 8 -> mostOfStatus();
            case 9 -> firstOfStatus(mostOfStatus());
            case 10 -> blame();
            case 11 -> remembered.size();
            case 12 -> (int) events().stream().filter(p -> degree(events().indexOf(p)) % 2 == 1).count();
            case 13 -> events().stream().mapToInt(this::spread).sum();
            case 14 -> bounds().size();
            case 15 -> pairsWith(1);
            default -> NONE;
        };
    }

    private void become(List<Stretch> others) {
        all = new ArrayList<>(others);
        eventsNow = null;
        crossingsNow = null;
        edgesNow = null;
        sharedNow.clear();
    }

    private void remember() {
        remembered.addLast(List.copyOf(all));
        if (remembered.size() > 8) {
            remembered.removeFirst();
        }
        eventsNow = null;
        crossingsNow = null;
        edgesNow = null;
        sharedNow.clear();
    }

    private Stretch one(int segment) {
        place(segment, all.size());
        return all.get(segment);
    }

    private static void place(int k, int size) {
        if (k < 0 || k >= size) {
            throw new IndexOutOfBoundsException();
        }
    }

    private static void question(int what, int many) {
        if (what < 0 || what >= many) {
            throw new NoSuchElementException();
        }
    }

    private static void unlike(int segment, int other) {
        if (segment == other) {
            throw new IllegalArgumentException();
        }
    }

    private static void point(int x, int y) {
        if (x < -999 || x > 999 || y < -999 || y > 999) {
            throw new IllegalArgumentException();
        }
    }

    private static void tintIs(int tint) {
        if (tint < 0 || tint > 3) {
            throw new IllegalArgumentException();
        }
    }

    private static long number(Spot p, int what) {
        Frac number = what < 2 ? p.x() : p.y();
        return (what % 2 == 0 ? number.upper : number.lower).longValueExact();
    }

    private static int bits(Iterable<Integer> numbers) {
        int bits = 0;
        for (int n : numbers) {
            bits |= 1 << n;
        }
        return bits;
    }

    private List<Spot> crossingsOf(List<Stretch> some) {
        TreeSet<Spot> found = new TreeSet<>();
        for (int s = 0; s < some.size(); s++) {
            for (int t = 0; t < s; t++) {
                List<Spot> shared = shared(some.get(s), some.get(t));
                if (shared.size() == 1) {
                    found.add(shared.get(0));
                }
            }
        }
        return List.copyOf(found);
    }

    private List<Spot> shared(Stretch s, Stretch t) {
        return sharedNow.computeIfAbsent(List.of(s, t), both -> s.shared(t));
    }

    private List<Spot> crossings() {
        if (crossingsNow == null) {
            crossingsNow = crossingsOf(all);
        }
        return crossingsNow;
    }

    private List<Spot> events() {
        if (eventsNow == null) {
            TreeSet<Spot> found = new TreeSet<>(crossings());
            for (Stretch s : all) {
                found.add(s.left());
                found.add(s.right());
            }
            eventsNow = List.copyOf(found);
        }
        return eventsNow;
    }

    private List<Integer> bundle(Spot p) {
        List<Integer> found = new ArrayList<>();
        for (int s = 0; s < all.size(); s++) {
            if (all.get(s).has(p)) {
                found.add(s);
            }
        }
        return found;
    }

    private List<Integer> eventsOn(Stretch s) {
        List<Integer> found = new ArrayList<>();
        for (int k = 0; k < events().size(); k++) {
            if (s.has(events().get(k))) {
                found.add(k);
            }
        }
        return found;
    }

    private Set<List<Integer>> edges() {
        if (edgesNow == null) {
            edgesNow = edgesDrawn();
        }
        return edgesNow;
    }

    private Set<List<Integer>> edgesDrawn() {
        Set<List<Integer>> found = new HashSet<>();
        for (Stretch s : all) {
            List<Integer> row = eventsOn(s);
            for (int i = 1; i < row.size(); i++) {
                found.add(List.of(row.get(i - 1), row.get(i)));
            }
        }
        return found;
    }

    private int degree(int k) {
        return (int) edges().stream().filter(edge -> edge.contains(k)).count();
    }

    private int spread(Spot p) {
        int found = 0;
        for (int s = 0; s < all.size(); s++) {
            for (int t = 0; t < s; t++) {
                boolean inside = !all.get(s).endsIn(p) && !all.get(t).endsIn(p);
                found += inside && shared(all.get(s), all.get(t)).equals(List.of(p)) ? 1 : 0;
            }
        }
        return found;
    }

    private List<Integer> statusBehind(int k) {
        Spot event = events().get(k);
        List<Integer> found = new ArrayList<>();
        for (int s = 0; s < all.size(); s++) {
            if (all.get(s).left().compareTo(event) <= 0 && all.get(s).right().compareTo(event) > 0) {
                found.add(s);
            }
        }
        found.sort(Comparator.<Integer, Frac>comparing(s -> heightBehind(event, s)).thenComparing((s, t) -> {
            boolean isBehind = new Spot(event.x(), heightBehind(event, s)).compareTo(event) > 0;
            return isBehind ? compareRise(t, s) : compareRise(s, t);
        }).thenComparing(s -> s));
        return found;
    }

    private Frac heightBehind(Spot event, int s) {
        return all.get(s).isUpright() ? event.y() : all.get(s).heightAt(event.x());
    }

    private int compareRise(int s, int t) {
        if (all.get(s).isUpright() || all.get(t).isUpright()) {
            return Boolean.compare(all.get(s).isUpright(), all.get(t).isUpright());
        }
        return all.get(s).rise().compareTo(all.get(t).rise());
    }

    private int mostOfStatus() {
        int most = 0;
        for (int k = 0; k < events().size(); k++) {
            most = Math.max(most, status(k, NONE));
        }
        return most;
    }

    private int firstOfStatus(int many) {
        for (int k = 0; k < events().size(); k++) {
            if (status(k, NONE) == many) {
                return k;
            }
        }
        return NONE;
    }

    private List<Integer> tiedTo(int segment) {
        List<Integer> found = new ArrayList<>();
        for (int s = 0; s < all.size(); s++) {
            if (s != segment && !shared(all.get(s), all.get(segment)).isEmpty()) {
                found.add(s);
            }
        }
        return found;
    }

    private Set<Integer> part(int segment) {
        Set<Integer> found = new HashSet<>(Set.of(segment));
        ArrayDeque<Integer> open = new ArrayDeque<>(found);
        while (!open.isEmpty()) {
            for (int s : tiedTo(open.remove())) {
                if (found.add(s)) {
                    open.add(s);
                }
            }
        }
        return found;
    }

    private int parts() {
        Set<Set<Integer>> found = new HashSet<>();
        for (int s = 0; s < all.size(); s++) {
            found.add(part(s));
        }
        return found.size();
    }

    private int pairsWith(int points) {
        int found = 0;
        for (int s = 0; s < all.size(); s++) {
            for (int t = 0; t < s; t++) {
                found += shared(all.get(s), all.get(t)).size() == points ? 1 : 0;
            }
        }
        return found;
    }

    private int blame() {
        int blamed = NONE;
        int fewest = Integer.MAX_VALUE;
        for (int s = 0; s < all.size(); s++) {
            List<Stretch> rest = new ArrayList<>(all);
            rest.remove(s);
            int left = crossingsOf(rest).size();
            if (left < fewest) {
                blamed = s;
                fewest = left;
            }
        }
        return blamed;
    }

    private int nearestOn(Stretch way, Spot from, boolean notWithStart) {
        int nearest = NONE;
        Frac nearestWay = null;
        for (int s = 0; s < all.size(); s++) {
            if (notWithStart && all.get(s).has(from)) {
                continue;
            }
            for (Spot p : all.get(s).shared(way)) {
                Frac far = p.squareOfWayTo(from);
                if (nearestWay == null || far.compareTo(nearestWay) < 0) {
                    nearest = s;
                    nearestWay = far;
                }
            }
        }
        return nearest;
    }

    private List<Spot> bounds() {
        TreeSet<Spot> ends = new TreeSet<>();
        for (Stretch s : all) {
            ends.add(s.left());
            ends.add(s.right());
        }
        List<Spot> lower = chain(ends);
        List<Spot> upper = chain(ends.descendingSet());
        List<Spot> row = new ArrayList<>(lower);
        if (ends.size() > 1) {
            row.remove(row.size() - 1);
            row.addAll(upper);
            row.remove(row.size() - 1);
        }
        return row;
    }

    private static List<Spot> chain(Iterable<Spot> ends) {
        List<Spot> row = new ArrayList<>();
        for (Spot p : ends) {
            while (row.size() > 1 && !turnsLeft(row.get(row.size() - 2), row.get(row.size() - 1), p)) {
                row.remove(row.size() - 1);
            }
            row.add(p);
        }
        return row;
    }

    private static boolean turnsLeft(Spot a, Spot b, Spot c) {
        Frac one = b.x().minus(a.x()).times(c.y().minus(a.y()));
        Frac other = b.y().minus(a.y()).times(c.x().minus(a.x()));
        return one.compareTo(other) > 0;
    }
}
