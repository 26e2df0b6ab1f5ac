/** Gives the object for one more call: a new one after 512 calls, since the document leaves later ones free. */
final class Supply {
    private static final int CALLS = 512;
    private final int[] places;
    private HullSuite suite = null;
    private int left = 0;

    Supply(int[] places) {
        this.places = places;
    }

    HullSuite next() {
        if (left == 0) {
            suite = Due.with(places);
            left = CALLS - places.length;
        }
        left--;
        return suite;
    }
}
