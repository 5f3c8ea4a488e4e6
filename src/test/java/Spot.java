/** A point; one BEHIND another one is the greater. */
record Spot(Frac x, Frac y) implements Comparable<Spot> {
    static Spot of(int x, int y) {
        return new Spot(Frac.of(x), Frac.of(y));
    }

    @Override
    public int compareTo(Spot other) {
        int byX = x.compareTo(other.x);
        return byX != 0 ? byX : y.compareTo(other.y);
    }

    Frac squareOfWayTo(Spot other) {
        Frac wayX = x.minus(other.x);
        Frac wayY = y.minus(other.y);
        return wayX.times(wayX).plus(wayY.times(wayY));
    }
}
