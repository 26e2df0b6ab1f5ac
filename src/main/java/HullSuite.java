/**
 * Finds the corners of the least bulge that has all points of the plane that
 * there are, in six ways, which all find the same, and more about it.
 */
public final class HullSuite {
    public static final int BAD = -10000;
    public static final int FULL = -20000;

    private static final int LIMIT = 24;
    private static final int PLACES = 4096;
    private static final int ENGINES = 6;
    private static final int GREATEST_STEP = 64;

    private static final int X_BITS = 6;
    private static final int X_MASK = 63;

    private static final int NONE = -1;

    /** The chain engine holds its first corner twice before it is done. */
    private static final int RING = LIMIT + 1;

    private static final int OUTSIDE = 0;
    private static final int ON_BORDER = 1;
    private static final int INSIDE = 2;

    private final int[] placeOf = new int[LIMIT];
    private int present = 0;

    /** What an engine works on: each place once, by x and then by y. */
    private final int[] spots = new int[LIMIT];
    private int spotCount = 0;

    private final int[] ring = new int[RING];
    private final int[] otherRing = new int[RING];

    public HullSuite() {
    }

    public int add(int place) {
        if (!isPlace(place)) {
            return BAD;
        }
        for (int k = 0; k < LIMIT; k++) {
            if (!hasBit(present, k)) {
                placeOf[k] = place;
                present |= 1 << k;
                return k;
            }
        }
        return FULL;
    }

    public int remove(int k) {
        if (!isPoint(k)) {
            return BAD;
        }
        present &= ~(1 << k);
        return placeOf[k];
    }

    public int points() {
        return present;
    }

    public int corners(int engine) {
        if (!isEngine(engine)) {
            return BAD;
        }
        return findCorners(engine, ring);
    }

    public int corner(int engine, int i) {
        if (!isEngine(engine)) {
            return BAD;
        }
        int n = findCorners(engine, ring);
        if (i < 0 || i >= n) {
            return BAD;
        }
        return ring[i];
    }

    public boolean agree(int engine, int other) {
        if (!isEngine(engine) || !isEngine(other)) {
            return false;
        }
        int n = findCorners(engine, ring);
        int otherN = findCorners(other, otherRing);
        if (n != otherN) {
            return false;
        }
        for (int i = 0; i < n; i++) {
            if (ring[i] != otherRing[i]) {
                return false;
            }
        }
        return true;
    }

    public int area(int engine) {
        if (!isEngine(engine)) {
            return BAD;
        }
        int n = findCorners(engine, ring);
        int sum = 0;
        for (int i = 2; i < n; i++) {
            sum += turn(ring[0], ring[i - 1], ring[i]);
        }
        return sum;
    }

    public int border() {
        return borderOf(present);
    }

    public int holds(int place) {
        if (!isPlace(place)) {
            return BAD;
        }
        int n = hullOf(present);
        return standing(n, place);
    }

    public int farthest() {
        if (present == 0) {
            return BAD;
        }
        gather(present);
        int most = 0;
        for (int i = 0; i < spotCount; i++) {
            for (int j = 0; j < i; j++) {
                int square = squareOf(spots[i], spots[j]);
                if (square > most) {
                    most = square;
                }
            }
        }
        return most;
    }

    public int extreme(int dx, int dy) {
        if (present == 0 || !isStep(dx) || !isStep(dy)) {
            return BAD;
        }
        gather(present);
        int most = reach(dx, dy, spots[0]);
        for (int i = 1; i < spotCount; i++) {
            int reached = reach(dx, dy, spots[i]);
            if (reached > most) {
                most = reached;
            }
        }
        return most;
    }

    public int triangle() {
        gather(present);
        int most = 0;
        for (int i = 0; i < spotCount; i++) {
            for (int j = 0; j < i; j++) {
                int found = greatestOn(i, j);
                if (found > most) {
                    most = found;
                }
            }
        }
        return most;
    }

    public int layer(int k) {
        if (!isPoint(k)) {
            return BAD;
        }
        int left = present;
        // A border that isn't empty goes with each turn, so LIMIT turns do.
        for (int depth = 0; depth < LIMIT; depth++) {
            int outer = borderOf(left);
            if (hasBit(outer, k)) {
                return depth;
            }
            left &= ~outer;
        }
        return BAD;
    }

    public int tangent(int place) {
        if (!isPlace(place) || present == 0) {
            return BAD;
        }
        int n = hullOf(present);
        if (standing(n, place) != OUTSIDE) {
            return BAD;
        }
        int best = BAD;
        int bestSquare = 0;
        for (int i = 0; i < n; i++) {
            int square = squareOf(place, ring[i]);
            boolean nearest = best == BAD || square < bestSquare;
            if (nearest && noneOnLeft(n, place, ring[i])) {
                best = ring[i];
                bestSquare = square;
            }
        }
        return best;
    }

    public int places() {
        int n = hullOf(present);
        int count = 0;
        for (int place = 0; place < PLACES; place++) {
            if (standing(n, place) != OUTSIDE) {
                count++;
            }
        }
        return count;
    }

    private static boolean isPlace(int place) {
        return place >= 0 && place < PLACES;
    }

    private static boolean isEngine(int engine) {
        return engine >= 0 && engine < ENGINES;
    }

    private static boolean isStep(int d) {
        return d >= -GREATEST_STEP && d <= GREATEST_STEP;
    }

    private boolean isPoint(int k) {
        return k >= 0 && k < LIMIT && hasBit(present, k);
    }

    private static boolean hasBit(int set, int k) {
        return (set >> k & 1) == 1;
    }

    private static int reach(int dx, int dy, int place) {
        return dx * (place & X_MASK) + dy * (place >> X_BITS);
    }

    private static int squareOf(int a, int b) {
        int dx = (a & X_MASK) - (b & X_MASK);
        int dy = (a >> X_BITS) - (b >> X_BITS);
        return dx * dx + dy * dy;
    }

    /**
     * The doubled area of the triangle a, b, c: above 0 when c is on the left
     * of the line from a to b, below 0 when it is on the right.
     */
    private static int turn(int a, int b, int c) {
        int bx = (b & X_MASK) - (a & X_MASK);
        int by = (b >> X_BITS) - (a >> X_BITS);
        int cx = (c & X_MASK) - (a & X_MASK);
        int cy = (c >> X_BITS) - (a >> X_BITS);
        return bx * cy - by * cx;
    }

    /** For a place on the line through a and b: whether it is on the stretch between them. */
    private static boolean between(int a, int b, int place) {
        int ax = (a & X_MASK) - (place & X_MASK);
        int ay = (a >> X_BITS) - (place >> X_BITS);
        int bx = (b & X_MASK) - (place & X_MASK);
        int by = (b >> X_BITS) - (place >> X_BITS);
        return ax * bx + ay * by <= 0;
    }

    /** Whether a comes before b in the order in which the first corner is the least. */
    private static boolean before(int a, int b) {
        int ax = a & X_MASK;
        int bx = b & X_MASK;
        return ax < bx || ax == bx && a < b;
    }

    private static int following(int i, int n) {
        return i + 1 < n ? i + 1 : 0;
    }

    /** Puts a place at an index of a list of n and answers how many there are then. */
    private static int insert(int[] list, int n, int index, int place) {
        for (int i = n; i > index; i--) {
            list[i] = list[i - 1];
        }
        list[index] = place;
        return n + 1;
    }

    private void gather(int set) {
        spotCount = 0;
        for (int k = 0; k < LIMIT; k++) {
            if (hasBit(set, k)) {
                addSpot(placeOf[k]);
            }
        }
    }

    private void addSpot(int place) {
        int index = spotCount;
        while (index > 0 && before(place, spots[index - 1])) {
            index--;
        }
        if (index == 0 || spots[index - 1] != place) {
            spotCount = insert(spots, spotCount, index, place);
        }
    }

    /** Puts the corners that an engine finds into out and answers how many there are. */
    private int findCorners(int engine, int[] out) {
        gather(present);
        if (spotCount == 0) {
            return 0;
        }
        switch (engine) {
            case 0:
                return wrap(out);
            case 1:
                return chain(out);
            case 2:
                return scan(out);
            case 3:
                return split(out);
            case 4:
                return grow(out);
            default:
                return judge(out);
        }
    }

    /** Puts the corners of a set of points into ring, for what names no engine. */
    private int hullOf(int set) {
        gather(set);
        return spotCount == 0 ? 0 : wrap(ring);
    }

    /** Engine 0: goes from each corner to the spot that has all others on its left. */
    private int wrap(int[] out) {
        int here = spots[0];
        int n = 0;
        do {
            out[n] = here;
            n++;
            here = rightmostFrom(here);
        } while (here != spots[0] && n < spotCount);
        return n;
    }

    private int rightmostFrom(int corner) {
        int best = corner;
        for (int i = 0; i < spotCount; i++) {
            int side = turn(corner, best, spots[i]);
            if (side < 0 || side == 0 && squareOf(corner, spots[i]) > squareOf(corner, best)) {
                best = spots[i];
            }
        }
        return best;
    }

    /** Engine 1: the lower corners from left to right, then the upper ones back. */
    private int chain(int[] out) {
        if (spotCount == 1) {
            out[0] = spots[0];
            return 1;
        }
        int n = 0;
        for (int i = 0; i < spotCount; i++) {
            n = pushLeftTurn(out, 0, n, spots[i]);
        }
        int upper = n - 1;
        for (int i = spotCount - 2; i >= 0; i--) {
            n = pushLeftTurn(out, upper, n, spots[i]);
        }
        return n - 1;
    }

    /** Drops from the end, but for what is up to base, all that would not turn left to the place. */
    private static int pushLeftTurn(int[] out, int base, int n, int place) {
        int kept = n;
        while (kept >= base + 2 && turn(out[kept - 2], out[kept - 1], place) <= 0) {
            kept--;
        }
        out[kept] = place;
        return kept + 1;
    }

    /** Engine 2: goes round the first spot by direction and drops what does not turn left. */
    private int scan(int[] out) {
        sortAroundFirst(spots, spotCount);
        int n = 0;
        for (int i = 0; i < spotCount; i++) {
            n = pushLeftTurn(out, 0, n, spots[i]);
        }
        return n;
    }

    /**
     * Sorts by direction from the first, which must be the least. Spots in one
     * direction keep their order, which puts the nearer one first.
     */
    private static void sortAroundFirst(int[] list, int n) {
        for (int i = 2; i < n; i++) {
            int moved = list[i];
            int index = i;
            while (index > 1 && turn(list[0], list[index - 1], moved) < 0) {
                list[index] = list[index - 1];
                index--;
            }
            list[index] = moved;
        }
    }

    /** Engine 3: splits each side at the spot farthest outside it, until none is outside. */
    private int split(int[] out) {
        out[0] = spots[0];
        if (spotCount == 1) {
            return 1;
        }
        out[1] = spots[spotCount - 1];
        int n = 2;
        int side = 0;
        // Each step finds a new corner or ends with a side: LIMIT of each at most.
        for (int step = 0; step < 2 * LIMIT && side < n; step++) {
            int from = out[side];
            int to = out[following(side, n)];
            int outer = farthestOutside(from, to);
            if (outer == NONE) {
                side++;
            } else {
                n = insert(out, n, side + 1, outer);
            }
        }
        return n;
    }

    /** Of several as far out the first: it is an end of their row, and only the ends are corners. */
    private int farthestOutside(int from, int to) {
        int best = NONE;
        int bestTurn = 0;
        for (int i = 0; i < spotCount; i++) {
            int turned = turn(from, to, spots[i]);
            if (turned < bestTurn) {
                best = spots[i];
                bestTurn = turned;
            }
        }
        return best;
    }

    /** Engine 4: lets the hull grow by one spot at a time. */
    private int grow(int[] out) {
        int n = 0;
        for (int i = 0; i < spotCount; i++) {
            n = growBy(out, n, spots[i]);
        }
        return n;
    }

    /**
     * The place comes after all in the ring, so it is outside; the sides that
     * it sees, or is in line with, stand in one row, since the first corner
     * stays. The place stands in for all corners within that row.
     */
    private static int growBy(int[] out, int n, int place) {
        int firstSeen = NONE;
        int lastSeen = NONE;
        for (int i = 0; i < n; i++) {
            int end = out[following(i, n)];
            if (turn(out[i], end, place) <= 0) {
                firstSeen = firstSeen == NONE ? i : firstSeen;
                lastSeen = i;
            }
        }
        int dropped = lastSeen - firstSeen;
        for (int i = lastSeen + 1; i < n; i++) {
            out[i - dropped] = out[i];
        }
        // With no corner yet NONE is -1, so that the place becomes the first.
        return insert(out, n - dropped, firstSeen + 1, place);
    }

    /** Engine 5: judges each spot for itself and sorts those that are corners. */
    private int judge(int[] out) {
        int n = 0;
        for (int i = 0; i < spotCount; i++) {
            if (standsOut(spots[i])) {
                out[n] = spots[i];
                n++;
            }
        }
        sortAroundFirst(out, n);
        return n;
    }

    private boolean standsOut(int spot) {
        for (int i = 0; i < spotCount; i++) {
            if (spots[i] != spot && allLeftOrAhead(spot, spots[i])) {
                return true;
            }
        }
        return spotCount == 1;
    }

    private boolean allLeftOrAhead(int from, int to) {
        for (int i = 0; i < spotCount; i++) {
            int side = turn(from, to, spots[i]);
            boolean behind = side == 0 && spots[i] != from && between(to, spots[i], from);
            if (side < 0 || behind) {
                return false;
            }
        }
        return true;
    }

    /** Where a place stands to the hull whose n corners are in ring. */
    private int standing(int n, int place) {
        if (n == 0) {
            return OUTSIDE;
        }
        for (int i = 0; i < n; i++) {
            int end = ring[following(i, n)];
            int side = turn(ring[i], end, place);
            if (side < 0) {
                return OUTSIDE;
            }
            if (side == 0) {
                return between(ring[i], end, place) ? ON_BORDER : OUTSIDE;
            }
        }
        return INSIDE;
    }

    private int borderOf(int set) {
        int n = hullOf(set);
        int found = 0;
        for (int k = 0; k < LIMIT; k++) {
            if (hasBit(set, k) && standing(n, placeOf[k]) == ON_BORDER) {
                found |= 1 << k;
            }
        }
        return found;
    }

    /** Whether none of the n corners in ring, and so no point, is on the left of the line. */
    private boolean noneOnLeft(int n, int from, int to) {
        for (int i = 0; i < n; i++) {
            if (turn(from, to, ring[i]) > 0) {
                return false;
            }
        }
        return true;
    }

    /** The greatest doubled area of a triangle on spots i and j and one before both. */
    private int greatestOn(int i, int j) {
        int most = 0;
        for (int h = 0; h < j; h++) {
            int doubled = turn(spots[i], spots[j], spots[h]);
            if (doubled < 0) {
                doubled = -doubled;
            }
            if (doubled > most) {
                most = doubled;
            }
        }
        return most;
    }
}
