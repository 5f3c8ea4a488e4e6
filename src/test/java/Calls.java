import java.util.NoSuchElementException;

/** One call, told by its name and its numbers, asked of the class and of the slow model alike. */
final class Calls {
    private Calls() {
    }

    interface Asked {
        long answer();
    }

    /** The answer, or the simple name of what was thrown. */
    static String outcome(Asked asked) {
        try {
            return Long.toString(asked.answer());
        } catch (IndexOutOfBoundsException | IllegalArgumentException | IllegalStateException
                | NoSuchElementException thrown) {
            return thrown.getClass().getSimpleName();
        }
    }

    private static long bit(boolean answer) {
        return answer ? 1 : 0;
    }

    static long ofClass(CrossingSweep x, String name, int[] a) {
        switch (name) {
            case "feed": return x.feed(a[0], a[1], a[2], a[3], a[4]);
            case "end": return bit(x.end(a[0]));
            case "acts": return x.acts();
            case "fault": return x.fault();
            case "add": return x.add(a[0], a[1], a[2], a[3], a[4]);
            case "cut": return x.cut(a[0]);
            case "move": return x.move(a[0], a[1], a[2]);
            case "tint": return x.tint(a[0], a[1]);
            case "turn": return x.turn();
            case "undo": return x.undo();
            case "segment": return x.segment(a[0], a[1]);
            case "how": return x.how(a[0], a[1]);
            case "meet": return x.meet(a[0], a[1], a[2]);
            case "along": return x.along(a[0], a[1], a[2]);
            case "crossing": return x.crossing(a[0], a[1]);
            case "event": return x.event(a[0], a[1]);
            case "status": return x.status(a[0], a[1]);
            case "rank": return x.rank(a[0], a[1]);
            case "road": return x.road(a[0], a[1]);
            case "view": return x.view(a[0]);
            case "tied": return x.tied(a[0]);
            case "steps": return x.steps(a[0], a[1]);
            case "hull": return x.hull(a[0], a[1] != 0);
            case "on": return x.on(a[0], a[1]);
            case "at": return x.at(a[0], a[1]);
            case "next": return x.next(a[0], a[1], a[2] != 0);
            case "over": return x.over(a[0], a[1]);
            case "sight": return x.sight(a[0], a[1], a[2], a[3]);
            case "box": return x.box(a[0], a[1], a[2], a[3]);
            case "tinted": return x.tinted(a[0], a[1]);
            case "image": x.image(); return 0;
            case "back": return bit(x.back());
            case "count": return x.count(a[0]);
            default: throw new AssertionError(name);
        }
    }

    static long ofModel(Reference x, String name, int[] a) {
        switch (name) {
            case "feed": return x.feed(a[0], a[1], a[2], a[3], a[4]);
            case "end": return bit(x.end(a[0]));
            case "acts": return x.acts();
            case "fault": return x.fault();
            case "add": return x.add(a[0], a[1], a[2], a[3], a[4]);
            case "cut": return x.cut(a[0]);
            case "move": return x.move(a[0], a[1], a[2]);
            case "tint": return x.tint(a[0], a[1]);
            case "turn": return x.turn();
            case "undo": return x.undo();
            case "segment": return x.segment(a[0], a[1]);
            case "how": return x.how(a[0], a[1]);
            case "meet": return x.meet(a[0], a[1], a[2]);
            case "along": return x.along(a[0], a[1], a[2]);
            case "crossing": return x.crossing(a[0], a[1]);
            case "event": return x.event(a[0], a[1]);
            case "status": return x.status(a[0], a[1]);
            case "rank": return x.rank(a[0], a[1]);
            case "road": return x.road(a[0], a[1]);
            case "view": return x.view(a[0]);
            case "tied": return x.tied(a[0]);
            case "steps": return x.steps(a[0], a[1]);
            case "hull": return x.hull(a[0], a[1] != 0);
            case "on": return x.on(a[0], a[1]);
            case "at": return x.at(a[0], a[1]);
            case "next": return x.next(a[0], a[1], a[2] != 0);
            case "over": return x.over(a[0], a[1]);
            case "sight": return x.sight(a[0], a[1], a[2], a[3]);
            case "box": return x.box(a[0], a[1], a[2], a[3]);
            case "tinted": return x.tinted(a[0], a[1]);
            case "image": x.image(); return 0;
            case "back": return bit(x.back());
            case "count": return x.count(a[0]);
            default: throw new AssertionError(name);
        }
    }
}
