import java.util.List;
import java.util.TreeSet;

/** A SEGMENT as the slow model has it. */
record Stretch(int leftX, int leftY, int rightX, int rightY, int tint, Spot left, Spot right) {
    Stretch(int leftX, int leftY, int rightX, int rightY, int tint) {
        this(leftX, leftY, rightX, rightY, tint, Spot.of(leftX, leftY), Spot.of(rightX, rightY));
    }

    static Stretch between(int x, int y, int otherX, int otherY, int tint) {
        if (Spot.of(x, y).compareTo(Spot.of(otherX, otherY)) <= 0) {
            return new Stretch(x, y, otherX, otherY, tint);
        }
        return new Stretch(otherX, otherY, x, y, tint);
    }

    boolean isUpright() {
        return leftX == rightX && leftY != rightY;
    }

    boolean isPoint() {
        return leftX == rightX && leftY == rightY;
    }

    boolean endsIn(Spot p) {
        return left().equals(p) || right().equals(p);
    }

    /** Of one that is neither upright nor a point. */
    Frac rise() {
        return Frac.of(rightY - leftY).over(Frac.of(rightX - leftX));
    }

    Frac heightAt(Frac x) {
        return Frac.of(leftY).plus(x.minus(Frac.of(leftX)).times(rise()));
    }

    boolean has(Spot p) {
        if (p.compareTo(left()) < 0 || p.compareTo(right()) > 0) {
            return false;
        }
        if (isPoint() || isUpright()) {
            return p.x().equals(Frac.of(leftX));
        }
        return heightAt(p.x()).equals(p.y());
    }

    /** No point, the one point, or the first and the last of those that are in both. */
    List<Spot> shared(Stretch other) {
        TreeSet<Spot> found = new TreeSet<>();
        for (Spot p : List.of(left(), right(), other.left(), other.right())) {
            if (has(p) && other.has(p)) {
                found.add(p);
            }
        }
        if (found.size() > 1) {
            return List.of(found.first(), found.last());
        }
        Spot inside = lineCrossing(other);
        if (inside != null && has(inside) && other.has(inside)) {
            found.add(inside);
        }
        return List.copyOf(found);
    }

    private Spot lineCrossing(Stretch other) {
        if (isPoint() || other.isPoint() || isUpright() && other.isUpright()) {
            return null;
        }
        if (isUpright()) {
            return new Spot(Frac.of(leftX), other.heightAt(Frac.of(leftX)));
        }
        if (other.isUpright()) {
            return other.lineCrossing(this);
        }
        Frac steeper = rise().minus(other.rise());
        if (steeper.isZero()) {
            return null;
        }
        Frac nought = Frac.of(0);
        Frac x = other.heightAt(nought).minus(heightAt(nought)).over(steeper);
        return new Spot(x, heightAt(x));
    }
}
