import java.util.NoSuchElementException;

/** A finder of crossings of stretches between whole points; ../shared/DOC.md says what each call answers. */
public final class CrossingSweep {
    public static final int NONE = -1;

    private static final int MOST_SEGMENTS = 24;
    /** Two ENDS of each SEGMENT, and one point of each two SEGMENTS. */
    private static final int MOST_EVENTS = 324;
    private static final int MOST_COORDINATE = 999;
    private static final int MOST_TINT = 3;
    private static final int MOST_REMEMBERED = 8;
    private static final int MOST_BYTES = 400;
    private static final int MOST_ACTS = 14;
    private static final int MOST_DIGITS = 3;
    /** So many halvings or divisions are enough for any numbers that come here. */
    private static final int MOST_ROUNDS = 128;

    private final Segments segments;
    private final Segments kept;
    private final Segments probe;
    private final History history;
    private final Script script;
    private final Picture picture;
    private final Hull bounds;
    private boolean isKept;
    private boolean isStale;

    public CrossingSweep() {
        segments = new Segments();
        kept = new Segments();
        probe = new Segments();
        history = new History();
        script = new Script();
        picture = new Picture();
        bounds = new Hull();
        isKept = false;
        isStale = true;
    }

    public int feed(int a, int b, int c, int d, int e) {
        if (!script.hasRoom()) {
            return NONE;
        }
        script.push(a);
        script.push(b);
        script.push(c);
        script.push(d);
        script.push(e);
        return script.length;
    }

    public boolean end(int n) {
        return script.shorten(n);
    }

    public int acts() throws IllegalArgumentException {
        int done = script.read(segments);
        if (script.fault != NONE) {
            throw new IllegalArgumentException("the text is wrong");
        }
        history.forget();
        become(script.draft);
        return done;
    }

    public int fault() {
        return script.fault;
    }

    public int add(int x, int y, int otherX, int otherY, int tint)
            throws IllegalArgumentException, IllegalStateException {
        checkPoint(x, y);
        checkPoint(otherX, otherY);
        checkTint(tint);
        if (segments.isFull()) {
            throw new IllegalStateException("there are 24 segments");
        }
        remember();
        segments.append(x, y, otherX, otherY, tint);
        return segments.size - 1;
    }

    public int cut(int segment) throws IndexOutOfBoundsException {
        checkSegment(segment);
        int ahead = drawn().events.crossings;
        remember();
        segments.drop(segment);
        return ahead - drawn().events.crossings;
    }

    public int move(int segment, int byX, int byY) throws IndexOutOfBoundsException, IllegalArgumentException {
        checkSegment(segment);
        if (!segments.canShift(segment, byX, byY)) {
            throw new IllegalArgumentException("an end would be beyond 999");
        }
        remember();
        segments.shift(segment, byX, byY);
        return drawn().events.crossings;
    }

    public int tint(int segment, int tint) throws IndexOutOfBoundsException, IllegalArgumentException {
        checkSegment(segment);
        checkTint(tint);
        remember();
        int ahead = segments.tints[segment];
        segments.tints[segment] = tint;
        return ahead;
    }

    public int turn() {
        remember();
        segments.rotate();
        return drawn().events.size;
    }

    public int undo() throws IllegalStateException {
        if (history.size == 0) {
            throw new IllegalStateException("nothing is remembered");
        }
        become(history.pop());
        return history.size;
    }

    public int segment(int segment, int what) throws IndexOutOfBoundsException, NoSuchElementException {
        checkSegment(segment);
        switch (what) {
            case 0:
                return segments.leftX[segment];
            case 1:
                return segments.leftY[segment];
            case 2:
                return segments.rightX[segment];
            case 3:
                return segments.rightY[segment];
            case 4:
                return segments.tints[segment];
            case 5:
                return segments.kind(segment);
            case 6:
                return drawn().events.crossingsOn(segment);
            case 7:
                return drawn().events.eventsOn(segment) - 1;
            case 8:
                return drawn().ties.part(segment);
            default:
                throw new NoSuchElementException("no such question of a segment");
        }
    }

    public int how(int segment, int other) throws IndexOutOfBoundsException, IllegalArgumentException {
        checkSegment(segment);
        checkSegment(other);
        checkTwo(segment, other);
        if (segments.isSame(segment, other)) {
            return 4;
        }
        Encounter met = encounterOf(segment, other);
        if (met.kind == Encounter.ALONG) {
            return 3;
        }
        if (met.kind == Encounter.APART) {
            return 0;
        }
        return met.isAtEndOf(segments, segment) || met.isAtEndOf(segments, other) ? 1 : 2;
    }

    public long meet(int segment, int other, int what) throws IndexOutOfBoundsException, NoSuchElementException,
            IllegalArgumentException, IllegalStateException {
        checkSegment(segment);
        checkSegment(other);
        checkQuestion(what, 3);
        checkTwo(segment, other);
        Encounter met = encounterOf(segment, other);
        if (met.kind != Encounter.MEETING) {
            throw new IllegalStateException("they do not meet");
        }
        return partOfPoint(met.x, met.y, met.lower, what);
    }

    public int along(int segment, int other, int what) throws IndexOutOfBoundsException, NoSuchElementException,
            IllegalArgumentException, IllegalStateException {
        checkSegment(segment);
        checkSegment(other);
        checkQuestion(what, 3);
        checkTwo(segment, other);
        Encounter met = encounterOf(segment, other);
        if (met.kind != Encounter.ALONG) {
            throw new IllegalStateException("they do not lie along one another");
        }
        switch (what) {
            case 0:
                return met.fromX;
            case 1:
                return met.fromY;
            case 2:
                return met.toX;
            default:
                return met.toY;
        }
    }

    public long crossing(int k, int what) throws IndexOutOfBoundsException, NoSuchElementException {
        Events events = drawn().events;
        checkPlace(k, events.crossings);
        checkQuestion(what, 6);
        int event = events.eventOf[k];
        int bundle = events.bundle[event];
        switch (what) {
            case 4:
                return Integer.bitCount(bundle);
            case 5:
                return bundle;
            case 6:
                return segments.tintsOf(bundle);
            default:
                return partOfPoint(events.x[event], events.y[event], events.lower[event], what);
        }
    }

    public long event(int k, int what) throws IndexOutOfBoundsException, NoSuchElementException {
        Events events = drawn().events;
        checkPlace(k, events.size);
        checkQuestion(what, 9);
        switch (what) {
            case 4:
                return events.leftsIn(k);
            case 5:
                return events.rightsIn(k);
            case 6:
                return events.insidesIn(k);
            case 7:
                return events.crossingOf[k];
            case 8:
                return picture.spread(k);
            case 9:
                return picture.graph.degree[k];
            default:
                return partOfPoint(events.x[k], events.y[k], events.lower[k], what);
        }
    }

    public int status(int k, int i) throws IndexOutOfBoundsException {
        Events events = drawn().events;
        checkPlace(k, events.size);
        int alive = events.aliveBehind(k);
        if (i == NONE) {
            return Integer.bitCount(alive);
        }
        for (int s = 0; s < segments.size; s++) {
            if (has(alive, s) && Status.rankOf(segments, events, k, s) == i) {
                return s;
            }
        }
        return NONE;
    }

    public int rank(int segment, int k) throws IndexOutOfBoundsException {
        checkSegment(segment);
        Events events = drawn().events;
        checkPlace(k, events.size);
        if (!has(events.aliveBehind(k), segment)) {
            return NONE;
        }
        return Status.rankOf(segments, events, k, segment);
    }

    public int road(int k, int other) throws IndexOutOfBoundsException {
        Events events = drawn().events;
        checkPlace(k, events.size);
        checkPlace(other, events.size);
        return picture.graph.distance(events, k, other);
    }

    public int view(int k) {
        Events events = drawn().events;
        int seen = 0;
        int latest = NONE;
        for (int e = 0; e + 1 < events.size; e++) {
            if (!events.isLastOfItsX(e)) {
                continue;
            }
            int top = Status.last(segments, events, e);
            if (seen > 0 && top == latest) {
                continue;
            }
            if (seen == k) {
                return top;
            }
            latest = top;
            seen++;
        }
        return k == NONE ? seen : NONE;
    }

    public int tied(int segment) throws IndexOutOfBoundsException {
        checkSegment(segment);
        return drawn().ties.touching[segment];
    }

    public int steps(int segment, int other) throws IndexOutOfBoundsException {
        checkSegment(segment);
        checkSegment(other);
        return drawn().ties.distance(segment, other);
    }

    public int hull(int k, boolean y) throws IndexOutOfBoundsException {
        bounds.wrap(segments);
        checkPlace(k, bounds.size);
        return y ? bounds.y[k] : bounds.x[k];
    }

    public int on(int segment, int k) throws IndexOutOfBoundsException {
        checkSegment(segment);
        Events events = drawn().events;
        int found = 0;
        for (int c = 0; c < events.crossings; c++) {
            if (has(events.bundle[events.eventOf[c]], segment)) {
                if (found == k) {
                    return c;
                }
                found++;
            }
        }
        return NONE;
    }

    public int at(int x, int y) throws IllegalArgumentException {
        checkPoint(x, y);
        int bits = 0;
        for (int s = 0; s < segments.size; s++) {
            if (segments.hasPoint(s, x, y)) {
                bits |= 1 << s;
            }
        }
        return bits;
    }

    public int next(int x, int y, boolean up) throws IllegalArgumentException {
        checkPoint(x, y);
        int nearest = NONE;
        long upper = 0;
        long lower = 1;
        for (int s = 0; s < segments.size; s++) {
            if (!segments.spansX(s, x)) {
                continue;
            }
            long gap = up ? segments.gapAbove(s, x, y) : -segments.gapAbove(s, x, y);
            long parts = segments.partsOfGap(s);
            if (gap > 0 && (nearest == NONE || gap * lower < upper * parts)) {
                nearest = s;
                upper = gap;
                lower = parts;
            }
        }
        return nearest;
    }

    public int over(int x, int y) throws IllegalArgumentException {
        checkPoint(x, y);
        int found = 0;
        for (int s = 0; s < segments.size; s++) {
            // an upright one and a mere point have no RIGHT of a greater X than LEFT
            boolean spans = segments.leftX[s] <= x && segments.rightX[s] > x;
            if (spans && segments.gapAbove(s, x, y) > 0) {
                found++;
            }
        }
        return found;
    }

    public int sight(int x, int y, int toX, int toY) throws IllegalArgumentException {
        checkPoint(x, y);
        checkPoint(toX, toY);
        probe.put(0, x, y, toX, toY);
        Encounter met = picture.encounter;
        int nearest = NONE;
        long upper = 0;
        long lower = 1;
        for (int s = 0; s < segments.size; s++) {
            met.study(segments, s, probe, 0);
            if (met.kind == Encounter.APART) {
                continue;
            }
            long way = met.wayFrom(x, y);
            if (nearest == NONE || way * lower < upper * met.lower) {
                nearest = s;
                upper = way;
                lower = met.lower;
            }
        }
        return nearest;
    }

    public int box(int x, int y, int toX, int toY) throws IllegalArgumentException {
        checkPoint(x, y);
        checkPoint(toX, toY);
        if (x > toX || y > toY) {
            throw new IllegalArgumentException("a first one is greater");
        }
        int bits = 0;
        for (int s = 0; s < segments.size; s++) {
            if (segments.comesInto(s, x, y, toX, toY)) {
                bits |= 1 << s;
            }
        }
        return bits;
    }

    public int tinted(int tint, int other) throws IllegalArgumentException {
        checkTint(tint);
        checkTint(other);
        Events events = drawn().events;
        int found = 0;
        for (int c = 0; c < events.crossings; c++) {
            int bundle = events.bundle[events.eventOf[c]];
            int ofTint = segments.ofTint(tint) & bundle;
            int ofOther = segments.ofTint(other) & bundle;
            boolean both = tint == other ? Integer.bitCount(ofTint) > 1 : ofTint != 0 && ofOther != 0;
            if (both) {
                found++;
            }
        }
        return found;
    }

    public void image() {
        kept.copyFrom(segments);
        isKept = true;
    }

    public boolean back() {
        if (!isKept) {
            return false;
        }
        history.forget();
        become(kept);
        return true;
    }

    public int count(int what) {
        Picture now = drawn();
        switch (what) {
            case 0:
                return segments.size;
            case 1:
                return now.events.crossings;
            case 2:
                return now.events.size;
            case 3:
                return now.ties.alongPairs;
            case 4:
                return now.graph.edges;
            case 5:
                return now.ties.parts();
            case 6:
                return now.faces();
            case 7:
                return now.events.greatestBundle();
            default:
                return countFurther(now, what);
        }
    }

    private int countFurther(Picture now, int what) {
        switch (what) {
            case 8:
                return now.events.greatestStatus();
            case 9:
                return now.events.firstOfStatus(now.events.greatestStatus());
            case 10:
                return now.blame();
            case 11:
                return history.size;
            case 12:
                return now.graph.oddDegrees(now.events.size);
            case 13:
                return now.spreads();
            case 14:
                bounds.wrap(segments);
                return bounds.size;
            case 15:
                return now.ties.meetingPairs;
            default:
                return NONE;
        }
    }

    private void checkSegment(int segment) throws IndexOutOfBoundsException {
        checkPlace(segment, segments.size);
    }

    private static void checkPlace(int k, int size) throws IndexOutOfBoundsException {
        if (k < 0 || k >= size) {
            throw new IndexOutOfBoundsException("there is no such one");
        }
    }

    private static void checkQuestion(int what, int most) throws NoSuchElementException {
        if (what < 0 || what > most) {
            throw new NoSuchElementException("no such question");
        }
    }

    private static void checkTwo(int segment, int other) throws IllegalArgumentException {
        if (segment == other) {
            throw new IllegalArgumentException("both are one");
        }
    }

    private static void checkPoint(int x, int y) throws IllegalArgumentException {
        if (!isCoordinate(x) || !isCoordinate(y)) {
            throw new IllegalArgumentException("there is no such point");
        }
    }

    private static void checkTint(int tint) throws IllegalArgumentException {
        if (tint < 0 || tint > MOST_TINT) {
            throw new IllegalArgumentException("there is no such tint");
        }
    }

    private static boolean isCoordinate(long number) {
        return number >= -MOST_COORDINATE && number <= MOST_COORDINATE;
    }

    private static boolean has(int bits, int segment) {
        return (bits >> segment & 1) != 0;
    }

    /** Called ahead of each change by hand, so that it can be taken back. */
    private void remember() {
        history.push(segments);
        isStale = true;
    }

    private void become(Segments others) {
        segments.copyFrom(others);
        isStale = true;
    }

    private Encounter encounterOf(int segment, int other) {
        picture.encounter.study(segments, segment, segments, other);
        return picture.encounter;
    }

    private Picture drawn() {
        if (isStale) {
            picture.draw(segments);
            isStale = false;
        }
        return picture;
    }

    private static long partOfPoint(long x, long y, long lower, int what) {
        long upper = what < 2 ? x : y;
        long shared = divisorOfBoth(upper, lower);
        if (shared == 0) {
            return 0;
        }
        return what % 2 == 0 ? upper / shared : lower / shared;
    }

    private static long divisorOfBoth(long upper, long lower) {
        long a = Math.abs(upper);
        long b = Math.abs(lower);
        for (int round = 0; round < MOST_ROUNDS && b != 0; round++) {
            long rest = a % b;
            a = b;
            b = rest;
        }
        return a;
    }

    /** The SEGMENTS in rows, LEFT ahead of RIGHT. */
    private static final class Segments {
        final int[] leftX;
        final int[] leftY;
        final int[] rightX;
        final int[] rightY;
        final int[] tints;
        int size;

        Segments() {
            leftX = new int[MOST_SEGMENTS];
            leftY = new int[MOST_SEGMENTS];
            rightX = new int[MOST_SEGMENTS];
            rightY = new int[MOST_SEGMENTS];
            tints = new int[MOST_SEGMENTS];
            size = 0;
        }

        boolean isFull() {
            return size >= MOST_SEGMENTS;
        }

        void append(int x, int y, int otherX, int otherY, int tintTold) {
            if (isFull()) {
                return;
            }
            put(size, x, y, otherX, otherY);
            tints[size] = tintTold;
            size++;
        }

        void put(int s, int x, int y, int otherX, int otherY) {
            boolean inOrder = x < otherX || x == otherX && y <= otherY;
            leftX[s] = inOrder ? x : otherX;
            leftY[s] = inOrder ? y : otherY;
            rightX[s] = inOrder ? otherX : x;
            rightY[s] = inOrder ? otherY : y;
        }

        void drop(int segment) {
            for (int s = segment; s + 1 < size; s++) {
                copyOne(s, this, s + 1);
            }
            size--;
        }

        boolean canShift(int s, long byX, long byY) {
            return isCoordinate(leftX[s] + byX) && isCoordinate(rightX[s] + byX)
                    && isCoordinate(leftY[s] + byY) && isCoordinate(rightY[s] + byY);
        }

        void shift(int s, int byX, int byY) {
            leftX[s] += byX;
            rightX[s] += byX;
            leftY[s] += byY;
            rightY[s] += byY;
        }

        void rotate() {
            for (int s = 0; s < size; s++) {
                put(s, -leftY[s], leftX[s], -rightY[s], rightX[s]);
            }
        }

        void copyFrom(Segments others) {
            for (int s = 0; s < others.size; s++) {
                copyOne(s, others, s);
            }
            size = others.size;
        }

        private void copyOne(int s, Segments others, int other) {
            leftX[s] = others.leftX[other];
            leftY[s] = others.leftY[other];
            rightX[s] = others.rightX[other];
            rightY[s] = others.rightY[other];
            tints[s] = others.tints[other];
        }

        long width(int s) {
            return rightX[s] - leftX[s];
        }

        long rise(int s) {
            return rightY[s] - leftY[s];
        }

        int kind(int s) {
            if (width(s) == 0) {
                return rise(s) == 0 ? 0 : 1;
            }
            return rise(s) == 0 ? 2 : 3;
        }

        boolean isSame(int s, int other) {
            return leftX[s] == leftX[other] && leftY[s] == leftY[other]
                    && rightX[s] == rightX[other] && rightY[s] == rightY[other];
        }

        boolean spansX(int s, int x) {
            return leftX[s] <= x && x <= rightX[s];
        }

        boolean hasPoint(int s, int x, int y) {
            return spansX(s, x) && gapAbove(s, x, y) == 0;
        }

        /** By how much a SEGMENT that spans the X is above the point there (below 0: below it), in partsOfGap. */
        long gapAbove(int s, int x, int y) {
            if (width(s) != 0) {
                return (leftY[s] - y) * width(s) + (x - leftX[s]) * rise(s);
            }
            if (leftY[s] > y) {
                return leftY[s] - y;
            }
            return rightY[s] < y ? rightY[s] - y : 0;
        }

        long partsOfGap(int s) {
            return width(s) != 0 ? width(s) : 1;
        }

        boolean comesInto(int s, int x, int y, int toX, int toY) {
            boolean near = leftX[s] <= toX && rightX[s] >= x
                    && Math.min(leftY[s], rightY[s]) <= toY && Math.max(leftY[s], rightY[s]) >= y;
            if (!near) {
                return false;
            }
            long a = sideOf(s, x, y);
            long b = sideOf(s, x, toY);
            long c = sideOf(s, toX, y);
            long d = sideOf(s, toX, toY);
            // all corners strictly on one side of its line: the line passes the box by
            boolean allLeft = a > 0 && b > 0 && c > 0 && d > 0;
            boolean allRight = a < 0 && b < 0 && c < 0 && d < 0;
            return !allLeft && !allRight;
        }

        /** Above 0 where the point is to the left of the line from LEFT to RIGHT. */
        private long sideOf(int s, int x, int y) {
            return width(s) * (y - leftY[s]) - rise(s) * (x - leftX[s]);
        }

        int ofTint(int tintAsked) {
            int bits = 0;
            for (int s = 0; s < size; s++) {
                if (tints[s] == tintAsked) {
                    bits |= 1 << s;
                }
            }
            return bits;
        }

        int tintsOf(int bundle) {
            int bits = 0;
            for (int s = 0; s < size; s++) {
                if (has(bundle, s)) {
                    bits |= 1 << tints[s];
                }
            }
            return bits;
        }
    }

    /** What the SEGMENTS were ahead of the latest changes by hand. */
    private static final class History {
        private final Segments[] rows;
        private int latest;
        int size;

        History() {
            rows = new Segments[MOST_REMEMBERED];
            for (int i = 0; i < MOST_REMEMBERED; i++) {
                rows[i] = new Segments();
            }
            latest = 0;
            size = 0;
        }

        void push(Segments now) {
            latest = (latest + 1) % MOST_REMEMBERED;
            rows[latest].copyFrom(now);
            size = Math.min(size + 1, MOST_REMEMBERED);
        }

        /** Asked for only while something is remembered. */
        Segments pop() {
            Segments row = rows[latest];
            latest = (latest + MOST_REMEMBERED - 1) % MOST_REMEMBERED;
            size--;
            return row;
        }

        void forget() {
            size = 0;
        }
    }

    /** The TAPE and its reader. What a text tells is done to a draft, so that of a wrong one nothing stays. */
    private static final class Script {
        private static final int FED = 20;

        private final byte[] bytes;
        private final int[] told;
        final Segments draft;
        int length;
        int fault;
        private int at;
        private int number;

        Script() {
            bytes = new byte[MOST_BYTES];
            told = new int[5];
            draft = new Segments();
            length = 0;
            fault = NONE;
            at = 0;
            number = 0;
        }

        boolean hasRoom() {
            return length + FED <= MOST_BYTES;
        }

        void push(int four) {
            for (int shift = 24; shift >= 0; shift -= 8) {
                if (length < MOST_BYTES) {
                    bytes[length] = (byte) (four >> shift);
                    length++;
                }
            }
        }

        boolean shorten(int n) {
            if (n < 0 || n > length) {
                return false;
            }
            length = n;
            return true;
        }

        /** How many ACTS were done to the draft; the fault is NONE, if the text was right. */
        int read(Segments now) {
            draft.copyFrom(now);
            fault = NONE;
            at = 0;
            skipBlanks();
            int done = 0;
            boolean more = at < length;
            for (int i = 0; i <= MOST_ACTS && more; i++) {
                skipBlanks();
                more = i < MOST_ACTS ? readAct() && readBreak() : refuse(at);
                done++;
            }
            length = 0;
            return done;
        }

        /** Whether one more ACT must come. */
        private boolean readBreak() {
            skipBlanks();
            if (at >= length) {
                return false;
            }
            if (bytes[at] != ';') {
                return refuse(at);
            }
            at++;
            return true;
        }

        private boolean readAct() {
            int begin = at;
            if (readWord("seg")) {
                return readSeg(begin);
            }
            if (readWord("cut")) {
                return readCut();
            }
            if (readWord("move")) {
                return readMove(begin);
            }
            if (readWord("tint")) {
                return readTint();
            }
            if (readWord("turn")) {
                draft.rotate();
                return true;
            }
            return refuse(begin);
        }

        private boolean readSeg(int begin) {
            for (int i = 0; i < 4; i++) {
                if (!readSigned()) {
                    return false;
                }
                told[i] = number;
            }
            told[4] = 0;
            if (readWord("tint")) {
                if (!readNumber(MOST_TINT)) {
                    return false;
                }
                told[4] = number;
            }
            if (draft.isFull()) {
                return refuse(begin);
            }
            draft.append(told[0], told[1], told[2], told[3], told[4]);
            return true;
        }

        private boolean readCut() {
            if (!readNumber(draft.size - 1)) {
                return false;
            }
            draft.drop(number);
            return true;
        }

        private boolean readMove(int begin) {
            if (!readNumber(draft.size - 1)) {
                return false;
            }
            int segment = number;
            if (!readWord("by")) {
                return refuse(at);
            }
            for (int i = 0; i < 2; i++) {
                if (!readSigned()) {
                    return false;
                }
                told[i] = number;
            }
            if (!draft.canShift(segment, told[0], told[1])) {
                return refuse(begin);
            }
            draft.shift(segment, told[0], told[1]);
            return true;
        }

        private boolean readTint() {
            if (!readNumber(draft.size - 1)) {
                return false;
            }
            int segment = number;
            if (!readNumber(MOST_TINT)) {
                return false;
            }
            draft.tints[segment] = number;
            return true;
        }

        /** Goes behind the word, if it is this one; else stays at its begin. */
        private boolean readWord(String word) {
            skipBlanks();
            int behind = at;
            boolean like = true;
            while (behind < length && bytes[behind] >= 'a' && bytes[behind] <= 'z') {
                int i = behind - at;
                like = like && i < word.length() && word.charAt(i) == bytes[behind];
                behind++;
            }
            if (!like || behind - at != word.length()) {
                return false;
            }
            at = behind;
            return true;
        }

        private boolean readNumber(int most) {
            skipBlanks();
            int begin = at;
            if (!readDigits(begin)) {
                return false;
            }
            return number <= most || refuse(begin);
        }

        private boolean readSigned() {
            skipBlanks();
            int begin = at;
            boolean isBelow = at < length && bytes[at] == '-';
            if (isBelow) {
                at++;
            }
            if (!readDigits(begin)) {
                return false;
            }
            number = isBelow ? -number : number;
            return true;
        }

        /** Without a digit the fault is here, with too many at the begin. */
        private boolean readDigits(int begin) {
            int first = at;
            int value = 0;
            while (at < length && bytes[at] >= '0' && bytes[at] <= '9') {
                if (at - first < MOST_DIGITS) {
                    value = value * 10 + bytes[at] - '0';
                }
                at++;
            }
            number = value;
            if (at == first) {
                return refuse(at);
            }
            return at - first <= MOST_DIGITS || refuse(begin);
        }

        private void skipBlanks() {
            while (at < length && bytes[at] == ' ') {
                at++;
            }
        }

        private boolean refuse(int wrongByte) {
            fault = wrongByte;
            return false;
        }
    }

    /** What two SEGMENTS have in both. Points are upper X, upper Y and one lower number (above 0) of both. */
    private static final class Encounter {
        static final int APART = 0;
        static final int MEETING = 1;
        static final int ALONG = 2;

        int kind;
        long x;
        long y;
        long lower;
        int fromX;
        int fromY;
        int toX;
        int toY;

        Encounter() {
            kind = APART;
            lower = 1;
        }

        void study(Segments row, int a, Segments others, int b) {
            long across = row.width(a) * others.rise(b) - row.rise(a) * others.width(b);
            lower = 1;
            if (across == 0) {
                studyAlike(row, a, others, b);
                return;
            }
            long gapX = others.leftX[b] - row.leftX[a];
            long gapY = others.leftY[b] - row.leftY[a];
            long way = gapX * others.rise(b) - gapY * others.width(b);
            long otherWay = gapX * row.rise(a) - gapY * row.width(a);
            if (across < 0) {
                across = -across;
                way = -way;
                otherWay = -otherWay;
            }
            boolean inBoth = way >= 0 && way <= across && otherWay >= 0 && otherWay <= across;
            kind = inBoth ? MEETING : APART;
            lower = across;
            x = row.leftX[a] * across + way * row.width(a);
            y = row.leftY[a] * across + way * row.rise(a);
        }

        /** Of SEGMENTS that rise alike, and of mere points. */
        private void studyAlike(Segments row, int a, Segments others, int b) {
            long gapX = others.leftX[b] - row.leftX[a];
            long gapY = others.leftY[b] - row.leftY[a];
            boolean inLine = gapX * row.rise(a) == gapY * row.width(a)
                    && gapX * others.rise(b) == gapY * others.width(b);
            boolean otherBegins = gapX > 0 || gapX == 0 && gapY > 0;
            fromX = otherBegins ? others.leftX[b] : row.leftX[a];
            fromY = otherBegins ? others.leftY[b] : row.leftY[a];
            boolean otherEnds = others.rightX[b] < row.rightX[a]
                    || others.rightX[b] == row.rightX[a] && others.rightY[b] < row.rightY[a];
            toX = otherEnds ? others.rightX[b] : row.rightX[a];
            toY = otherEnds ? others.rightY[b] : row.rightY[a];
            x = fromX;
            y = fromY;
            boolean isOne = fromX == toX && fromY == toY;
            boolean inOrder = fromX < toX || fromX == toX && fromY < toY;
            if (inLine && isOne) {
                kind = MEETING;
            } else {
                kind = inLine && inOrder ? ALONG : APART;
            }
        }

        boolean isAtEndOf(Segments row, int s) {
            return x == row.leftX[s] * lower && y == row.leftY[s] * lower
                    || x == row.rightX[s] * lower && y == row.rightY[s] * lower;
        }

        /** The way in X and that in Y, together, to the nearest point: on one line it grows as the distance does. */
        long wayFrom(int startX, int startY) {
            if (kind == MEETING) {
                return Math.abs(x - startX * lower) + Math.abs(y - startY * lower);
            }
            long first = Math.abs(fromX - startX) + Math.abs(fromY - startY);
            long second = Math.abs(toX - startX) + Math.abs(toY - startY);
            return Math.min(first, second);
        }
    }

    /** Who touches whom, and how. */
    private static final class Ties {
        final int[] touching;
        final int[] lyingAlong;
        int meetingPairs;
        int alongPairs;
        private int size;

        Ties() {
            touching = new int[MOST_SEGMENTS];
            lyingAlong = new int[MOST_SEGMENTS];
            meetingPairs = 0;
            alongPairs = 0;
            size = 0;
        }

        void clear(int segmentsNow) {
            for (int s = 0; s < segmentsNow; s++) {
                touching[s] = 0;
                lyingAlong[s] = 0;
            }
            meetingPairs = 0;
            alongPairs = 0;
            size = segmentsNow;
        }

        void note(int a, int b, int kind) {
            if (kind == Encounter.APART) {
                return;
            }
            touching[a] |= 1 << b;
            touching[b] |= 1 << a;
            if (kind == Encounter.MEETING) {
                meetingPairs++;
                return;
            }
            lyingAlong[a] |= 1 << b;
            lyingAlong[b] |= 1 << a;
            alongPairs++;
        }

        /** Pairs of SEGMENTS that have a point in both and do not lie ALONG one another. */
        int pairsMeetingIn(int bundle) {
            int ends = 0;
            for (int s = 0; s < size; s++) {
                if (has(bundle, s)) {
                    ends += Integer.bitCount(bundle & ~lyingAlong[s]) - 1;
                }
            }
            return ends >> 1;
        }

        private int grown(int bits) {
            int more = bits;
            for (int s = 0; s < size; s++) {
                if (has(bits, s)) {
                    more |= touching[s];
                }
            }
            return more;
        }

        int part(int segment) {
            int bits = 1 << segment;
            for (int i = 0; i < size; i++) {
                bits = grown(bits);
            }
            return bits;
        }

        int parts() {
            int found = 0;
            int seen = 0;
            for (int s = 0; s < size; s++) {
                if (!has(seen, s)) {
                    seen |= part(s);
                    found++;
                }
            }
            return found;
        }

        int distance(int segment, int other) {
            int bits = 1 << segment;
            for (int i = 0; i < size; i++) {
                if (has(bits, other)) {
                    return i;
                }
                bits = grown(bits);
            }
            return NONE;
        }
    }

    /** EVENTS in their order, who has them, and which are CROSSINGS. */
    private static final class Events {
        final long[] x;
        final long[] y;
        final long[] lower;
        final int[] bundle;
        final int[] crossingOf;
        final int[] eventOf;
        final int[] leftEvent;
        final int[] rightEvent;
        int size;
        int crossings;
        private int segmentsNow;

        Events() {
            x = new long[MOST_EVENTS];
            y = new long[MOST_EVENTS];
            lower = new long[MOST_EVENTS];
            bundle = new int[MOST_EVENTS];
            crossingOf = new int[MOST_EVENTS];
            eventOf = new int[MOST_EVENTS];
            leftEvent = new int[MOST_SEGMENTS];
            rightEvent = new int[MOST_SEGMENTS];
            size = 0;
            crossings = 0;
            segmentsNow = 0;
        }

        void clear() {
            size = 0;
            crossings = 0;
            segmentsNow = 0;
        }

        void insert(long pointX, long pointY, long pointLower) {
            int place = placeOf(pointX, pointY, pointLower);
            boolean isThere = place < size && compare(place, pointX, pointY, pointLower) == 0;
            if (isThere || size >= MOST_EVENTS) {
                return;
            }
            for (int k = size; k > place; k--) {
                x[k] = x[k - 1];
                y[k] = y[k - 1];
                lower[k] = lower[k - 1];
            }
            x[place] = pointX;
            y[place] = pointY;
            lower[place] = pointLower;
            size++;
        }

        /** How many EVENTS the point is BEHIND. */
        private int placeOf(long pointX, long pointY, long pointLower) {
            int low = 0;
            int high = size;
            for (int round = 0; round < MOST_ROUNDS && low < high; round++) {
                int middle = (low + high) >> 1;
                if (compare(middle, pointX, pointY, pointLower) < 0) {
                    low = middle + 1;
                } else {
                    high = middle;
                }
            }
            return low;
        }

        private int compare(int k, long pointX, long pointY, long pointLower) {
            int byX = Long.compare(x[k] * pointLower, pointX * lower[k]);
            return byX != 0 ? byX : Long.compare(y[k] * pointLower, pointY * lower[k]);
        }

        /** All points must have been put in. */
        void gather(Segments row, Ties ties) {
            segmentsNow = row.size;
            for (int s = 0; s < segmentsNow; s++) {
                leftEvent[s] = placeOf(row.leftX[s], row.leftY[s], 1);
                rightEvent[s] = placeOf(row.rightX[s], row.rightY[s], 1);
            }
            for (int k = 0; k < size; k++) {
                bundle[k] = bundleOf(row, k);
                crossingOf[k] = NONE;
                if (ties.pairsMeetingIn(bundle[k]) > 0) {
                    crossingOf[k] = crossings;
                    eventOf[crossings] = k;
                    crossings++;
                }
            }
        }

        private int bundleOf(Segments row, int k) {
            int bits = 0;
            for (int s = 0; s < segmentsNow; s++) {
                if (leftEvent[s] <= k && k <= rightEvent[s] && heightOf(row, s, k) == 0) {
                    bits |= 1 << s;
                }
            }
            return bits;
        }

        /** Above 0 where a SEGMENT is above the EVENT, below 0 where it is below it, 0 where it has it. */
        long heightOf(Segments row, int s, int k) {
            return row.rise(s) * (x[k] - row.leftX[s] * lower[k]) - row.width(s) * (y[k] - row.leftY[s] * lower[k]);
        }

        int leftsIn(int k) {
            return endsIn(leftEvent, k);
        }

        int rightsIn(int k) {
            return endsIn(rightEvent, k);
        }

        private int endsIn(int[] row, int k) {
            int bits = 0;
            for (int s = 0; s < segmentsNow; s++) {
                if (row[s] == k) {
                    bits |= 1 << s;
                }
            }
            return bits;
        }

        int insidesIn(int k) {
            return bundle[k] & ~leftsIn(k) & ~rightsIn(k);
        }

        int aliveBehind(int k) {
            int bits = 0;
            for (int s = 0; s < segmentsNow; s++) {
                if (leftEvent[s] <= k && k < rightEvent[s]) {
                    bits |= 1 << s;
                }
            }
            return bits;
        }

        boolean isLastOfItsX(int k) {
            return k + 1 >= size || x[k] * lower[k + 1] != x[k + 1] * lower[k];
        }

        int eventsOn(int segment) {
            int found = 0;
            for (int k = 0; k < size; k++) {
                if (has(bundle[k], segment)) {
                    found++;
                }
            }
            return found;
        }

        int crossingsOn(int segment) {
            int found = 0;
            for (int c = 0; c < crossings; c++) {
                if (has(bundle[eventOf[c]], segment)) {
                    found++;
                }
            }
            return found;
        }

        int greatestBundle() {
            int most = 0;
            for (int c = 0; c < crossings; c++) {
                most = Math.max(most, Integer.bitCount(bundle[eventOf[c]]));
            }
            return most;
        }

        int greatestStatus() {
            int most = 0;
            for (int k = 0; k < size; k++) {
                most = Math.max(most, Integer.bitCount(aliveBehind(k)));
            }
            return most;
        }

        int firstOfStatus(int many) {
            for (int k = 0; k < size; k++) {
                if (Integer.bitCount(aliveBehind(k)) == many) {
                    return k;
                }
            }
            return NONE;
        }
    }

    /** The order of the SEGMENTS that the sweep meets just behind an EVENT. */
    private static final class Status {
        private Status() {
        }

        /** How many of STATUS are ahead of one of it. */
        static int rankOf(Segments row, Events events, int k, int segment) {
            int alive = events.aliveBehind(k);
            int ahead = 0;
            for (int s = 0; s < row.size; s++) {
                if (has(alive, s) && isAhead(row, events, k, s, segment)) {
                    ahead++;
                }
            }
            return ahead;
        }

        static int last(Segments row, Events events, int k) {
            int alive = events.aliveBehind(k);
            int latest = NONE;
            for (int s = 0; s < row.size; s++) {
                if (has(alive, s) && (latest == NONE || isAhead(row, events, k, latest, s))) {
                    latest = s;
                }
            }
            return latest;
        }

        private static boolean isAhead(Segments row, Events events, int k, int a, int b) {
            int side = sideOf(row, events, k, a);
            int otherSide = sideOf(row, events, k, b);
            if (side != otherSide) {
                return side < otherSide;
            }
            if (side != 0) {
                // two that both are at the EVENT's side have no upright one among them
                long height = heightAt(row, events, k, a) * row.width(b);
                long otherHeight = heightAt(row, events, k, b) * row.width(a);
                if (height != otherHeight) {
                    return height < otherHeight;
                }
            }
            long steeper = row.rise(a) * row.width(b) - row.rise(b) * row.width(a);
            if (steeper == 0) {
                return a < b;
            }
            // above the EVENT they have still to come to the point that is in both, else they have left it
            return side > 0 ? steeper > 0 : steeper < 0;
        }

        private static int sideOf(Segments row, Events events, int k, int s) {
            return row.width(s) == 0 ? 0 : Long.signum(events.heightOf(row, s, k));
        }

        /** The Y at the EVENT's X, in so many parts as the EVENT's lower number and the width make. */
        private static long heightAt(Segments row, Events events, int k, int s) {
            long below = row.leftY[s] * row.width(s) * events.lower[k];
            return below + (events.x[k] - row.leftX[s] * events.lower[k]) * row.rise(s);
        }
    }

    /** EVENTS and the EDGES between them. */
    private static final class Graph {
        final int[] degree;
        int edges;
        private final int[] far;
        private final int[] queue;
        private int queued;

        Graph() {
            degree = new int[MOST_EVENTS];
            far = new int[MOST_EVENTS];
            queue = new int[MOST_EVENTS];
            edges = 0;
            queued = 0;
        }

        void draw(Events events, int segmentsNow) {
            edges = 0;
            for (int k = 0; k < events.size; k++) {
                degree[k] = 0;
            }
            for (int s = 0; s < segmentsNow; s++) {
                drawPieces(events, s);
            }
        }

        private void drawPieces(Events events, int s) {
            int lesser = (1 << s) - 1;
            int latest = events.leftEvent[s];
            for (int k = latest + 1; k <= events.rightEvent[s] && k < events.size; k++) {
                if (!has(events.bundle[k], s)) {
                    continue;
                }
                // one of a lesser number that has both EVENTS has told the same EDGE
                if ((events.bundle[latest] & events.bundle[k] & lesser) == 0) {
                    edges++;
                    degree[latest]++;
                    degree[k]++;
                }
                latest = k;
            }
        }

        int oddDegrees(int eventsNow) {
            int found = 0;
            for (int k = 0; k < eventsNow; k++) {
                found += degree[k] & 1;
            }
            return found;
        }

        int distance(Events events, int from, int to) {
            for (int k = 0; k < events.size; k++) {
                far[k] = NONE;
            }
            queued = 0;
            reach(from, 0);
            for (int i = 0; i < queued && far[to] == NONE; i++) {
                reachAround(events, queue[i]);
            }
            return far[to];
        }

        private void reachAround(Events events, int k) {
            int ahead = events.bundle[k];
            for (int e = k - 1; e >= 0 && ahead != 0; e--) {
                if ((events.bundle[e] & ahead) != 0) {
                    reach(e, far[k] + 1);
                    ahead &= ~events.bundle[e];
                }
            }
            int behind = events.bundle[k];
            for (int e = k + 1; e < events.size && behind != 0; e++) {
                if ((events.bundle[e] & behind) != 0) {
                    reach(e, far[k] + 1);
                    behind &= ~events.bundle[e];
                }
            }
        }

        private void reach(int k, int distance) {
            if (far[k] == NONE && queued < MOST_EVENTS) {
                far[k] = distance;
                queue[queued] = k;
                queued++;
            }
        }
    }

    /** All that is worked out from the SEGMENTS, and kept until they change. */
    private static final class Picture {
        final Encounter encounter;
        final Ties ties;
        final Events events;
        final Graph graph;
        private int segmentsNow;

        Picture() {
            encounter = new Encounter();
            ties = new Ties();
            events = new Events();
            graph = new Graph();
            segmentsNow = 0;
        }

        void draw(Segments row) {
            segmentsNow = row.size;
            ties.clear(segmentsNow);
            events.clear();
            for (int a = 0; a < segmentsNow; a++) {
                events.insert(row.leftX[a], row.leftY[a], 1);
                events.insert(row.rightX[a], row.rightY[a], 1);
                for (int b = 0; b < a; b++) {
                    encounter.study(row, a, row, b);
                    ties.note(a, b, encounter.kind);
                    if (encounter.kind == Encounter.MEETING) {
                        events.insert(encounter.x, encounter.y, encounter.lower);
                    }
                }
            }
            events.gather(row, ties);
            graph.draw(events, segmentsNow);
        }

        int faces() {
            return graph.edges + ties.parts() + 1 - events.size;
        }

        int spread(int k) {
            return ties.pairsMeetingIn(events.insidesIn(k));
        }

        int spreads() {
            int all = 0;
            for (int c = 0; c < events.crossings; c++) {
                all += spread(events.eventOf[c]);
            }
            return all;
        }

        int blame() {
            int blamed = NONE;
            int most = NONE;
            for (int s = 0; s < segmentsNow; s++) {
                int fewer = crossingsFewerWithout(s);
                if (fewer > most) {
                    blamed = s;
                    most = fewer;
                }
            }
            return blamed;
        }

        private int crossingsFewerWithout(int segment) {
            int fewer = 0;
            for (int c = 0; c < events.crossings; c++) {
                int bundle = events.bundle[events.eventOf[c]];
                if (has(bundle, segment) && ties.pairsMeetingIn(bundle & ~(1 << segment)) == 0) {
                    fewer++;
                }
            }
            return fewer;
        }
    }

    /** The ENDS that bound all of them. */
    private static final class Hull {
        private static final int MOST_ENDS = 2 * MOST_SEGMENTS;

        final int[] x;
        final int[] y;
        int size;
        private int bestX;
        private int bestY;

        Hull() {
            x = new int[MOST_ENDS];
            y = new int[MOST_ENDS];
            size = 0;
            bestX = 0;
            bestY = 0;
        }

        void wrap(Segments row) {
            size = 0;
            if (row.size == 0) {
                return;
            }
            findLeast(row);
            for (int i = 0; i < MOST_ENDS; i++) {
                x[i] = bestX;
                y[i] = bestY;
                size = i + 1;
                for (int s = 0; s < row.size; s++) {
                    tryNext(x[i], y[i], row.leftX[s], row.leftY[s]);
                    tryNext(x[i], y[i], row.rightX[s], row.rightY[s]);
                }
                if (bestX == x[0] && bestY == y[0]) {
                    return;
                }
            }
        }

        private void findLeast(Segments row) {
            bestX = row.leftX[0];
            bestY = row.leftY[0];
            for (int s = 1; s < row.size; s++) {
                if (row.leftX[s] < bestX || row.leftX[s] == bestX && row.leftY[s] < bestY) {
                    bestX = row.leftX[s];
                    bestY = row.leftY[s];
                }
            }
        }

        /** The best way on has no END to its right, and none in its line farther off. */
        private void tryNext(int fromX, int fromY, int endX, int endY) {
            long wayX = bestX - fromX;
            long wayY = bestY - fromY;
            long otherX = endX - fromX;
            long otherY = endY - fromY;
            long side = wayX * otherY - wayY * otherX;
            boolean isFarther = Math.abs(otherX) + Math.abs(otherY) > Math.abs(wayX) + Math.abs(wayY);
            if (side < 0 || side == 0 && isFarther) {
                bestX = endX;
                bestY = endY;
            }
        }
    }
}
