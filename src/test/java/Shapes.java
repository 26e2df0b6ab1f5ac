/** Places for points that stand at the edges of what the document says. */
final class Shapes {
    static final int[] NO_PLACES =
        {-1, 4096, -64, -4096, 4096 + 65, HullSuite.BAD, HullSuite.FULL, Integer.MIN_VALUE, Integer.MAX_VALUE};
    static final int[] NO_ENGINES = {-1, 6, 7, 8, -6, 32, 256, Integer.MIN_VALUE, Integer.MAX_VALUE};
    /** Among them what a shift by the number would take for 0, 1 or 23. */
    static final int[] NO_NUMBERS =
        {-1, 24, 25, 31, 32, 33, 55, 64, -9, -32, Integer.MIN_VALUE, Integer.MAX_VALUE};
    static final int ALL = (1 << 24) - 1;

    static final int[] NONE = {};
    static final int[] ONE = {Due.at(5, 9)};
    static final int[] HEAP = heap(Due.at(40, 50));
    static final int[] FLAT = line(17, 63, 2, 0);
    static final int[] UPRIGHT = line(0, 17, 0, 2);
    static final int[] RISING = line(0, 0, 2, 2);
    static final int[] FALLING = line(10, 63, 1, -2);
    static final int[][] LINES = {FLAT, UPRIGHT, RISING, FALLING};
    /** Every place is in this hull. */
    static final int[] WHOLE = {4095, Due.at(0, 63), 63, 0};
    /** One place alone, (1, 1), is within this hull. */
    static final int[] WEDGE = {Due.at(0, 0), Due.at(2, 1), Due.at(1, 2)};
    /** 24 corners on all sides, in the order of the corners. */
    static final int[] ROUND = round();
    /** 24 corners, all of them below the stretch from the first to the last, in the order of the corners. */
    static final int[] BOWL = bowl();
    /** Eight triangles, each within the one before. */
    static final int[] ONION = onion();

    private Shapes() {
    }

    static int[][] all() {
        return new int[][] {NONE, ONE, HEAP, FLAT, UPRIGHT, RISING, FALLING, WHOLE, WEDGE,
            mixed(ROUND), mixed(BOWL), ONION};
    }

    /** 24 points at one place. */
    static int[] heap(int place) {
        int[] places = new int[24];
        java.util.Arrays.fill(places, place);
        return places;
    }

    /** The same places in an order of no kind. */
    static int[] mixed(int[] places) {
        int[] mixed = new int[places.length];
        for (int k = 0; k < places.length; k++) {
            mixed[k] = places[k * 7 % places.length];
        }
        return mixed;
    }

    /** 24 points on one straight line. */
    private static int[] line(int x, int y, int dx, int dy) {
        int[] places = new int[24];
        for (int k = 0; k < 24; k++) {
            places[k] = Due.at(x + k * dx, y + k * dy);
        }
        return mixed(places);
    }

    /** Each side has another direction. */
    private static int[] round() {
        int[] dx = {1, 1, 1, 2, 3, 1};
        int[] dy = {-3, -2, -1, -1, -1, 0};
        int[] places = new int[24];
        places[0] = Due.at(11, 30);
        for (int i = 1; i < 24; i++) {
            int x = dx[(i - 1) % 6];
            int y = dy[(i - 1) % 6];
            for (int quarter = 0; quarter < (i - 1) / 6; quarter++) {
                int turned = x;
                x = -y;
                y = turned;
            }
            places[i] = places[i - 1] + x + 64 * y;
        }
        return places;
    }

    private static int[] bowl() {
        int[] dx = {4, 3, 2, 3, 4, 1, 3, 2, 1, 1, 1};
        int[] dy = {1, 1, 1, 2, 3, 1, 4, 3, 2, 3, 4};
        int[] places = new int[24];
        places[11] = Due.at(30, 3);
        places[12] = Due.at(31, 3);
        for (int i = 0; i < dx.length; i++) {
            places[10 - i] = places[11 - i] - dx[i] + 64 * dy[i];
            places[13 + i] = places[12 + i] + dx[i] + 64 * dy[i];
        }
        return places;
    }

    private static int[] onion() {
        int[] places = new int[24];
        for (int k = 0; k < 24; k++) {
            int r = 10 - k / 3;
            int x = k % 3 == 0 ? 30 - r : k % 3 == 1 ? 30 + r : 30;
            int y = k % 3 == 2 ? 30 + r : 30 - r;
            places[k] = Due.at(x, y);
        }
        return places;
    }
}
