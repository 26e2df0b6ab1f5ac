/** The sentences of the document's section "Terms", and what it says before and behind it. */
public final class TermsTest {
    private TermsTest() {
    }

    public static void main(String[] args) {
        Due.sentence("BAD = -10000", () -> Due.is("BAD", HullSuite.BAD, -10000));
        Due.sentence("FULL = -20000", () -> Due.is("FULL", HullSuite.FULL, -20000));
        Due.sentence("used for at most 512 calls", TermsTest::allOf512Calls);
        Due.sentence("at most 24 POINTS, with numbers 0 .. 23", TermsTest::numbers);
        Due.sentence("whole x and y from 0 to 63, written x + 64 * y", TermsTest::placesAtTheEdges);
        Due.sentence("several points may be at one place", TermsTest::severalAtOnePlace);
        Due.sentence("not on the straight stretch between two other members", TermsTest::straightSides);
        Due.sentence("nor between more of them", TermsTest::straightSidesOfAGrid);
        Due.sentence("they are listed counterclockwise", TermsTest::counterclockwise);
        Due.sentence("from the one with the least x", TermsTest::firstByX);
        Due.sentence("of several the one with the least y", TermsTest::firstByY);
        Due.sentence("the hull less what has a circle around it", TermsTest::borderOfFlatHulls);
        Due.sentence("the doubled AREA is twice what it is", TermsTest::doubledArea);
        Due.sentence("the sum of the squares of the differences", TermsTest::square);
        Due.sentence("bit k for point k", TermsTest::bits);
        Due.sentence("an ENGINE is a number 0 .. 5", TermsTest::engines);
        Due.sentence("no answer depends on it", TermsTest::anyEngine);
        Due.sentence("Promise 1: No points", TermsTest::newObject);
        Due.sentence("a new object has nothing of another one", TermsTest::twoObjects);
        Due.finish();
    }

    private static int at(int x, int y) {
        return Due.at(x, y);
    }

    private static void allOf512Calls() {
        HullSuite suite = new HullSuite();
        for (int pair = 0; pair < 255; pair++) {
            Due.is("add, call " + (2 * pair + 1), suite.add(pair), 0);
            Due.is("remove, call " + (2 * pair + 2), suite.remove(0), pair);
        }
        Due.is("add, call 511", suite.add(4095), 0);
        Due.is("corner, call 512", suite.corner(5, 0), 4095);
    }

    private static void numbers() {
        HullSuite suite = new HullSuite();
        for (int k = 0; k < 24; k++) {
            Due.is("add", suite.add(k), k);
        }
        Due.is("the 25th", suite.add(24), HullSuite.FULL);
        Due.is("remove(0)", suite.remove(0), 0);
        Due.is("remove(23)", suite.remove(23), 23);
        Due.is("the least number again", suite.add(30), 0);
        Due.is("the greatest number again", suite.add(31), 23);
    }

    private static void placesAtTheEdges() {
        checkPlace(0, 0, 0);
        checkPlace(63, 63, 0);
        checkPlace(64, 0, 1);
        checkPlace(4031, 63, 62);
        checkPlace(4032, 0, 63);
        checkPlace(4095, 63, 63);
        checkPlace(5 + 64 * 9, 5, 9);
    }

    private static void checkPlace(int place, int x, int y) {
        HullSuite suite = Due.with(place);
        Due.is("x of " + place, suite.extreme(1, 0), x);
        Due.is("y of " + place, suite.extreme(0, 1), y);
        Due.is("holds(" + place + ")", suite.holds(place), 1);
        Due.is("corner of " + place, suite.corner(0, 0), place);
    }

    private static void severalAtOnePlace() {
        HullSuite suite = Due.with(9, 9, 70, 9, 70);
        Due.is("points()", suite.points(), 31);
        Due.corners(suite, 70, 9);
        Due.is("remove(0)", suite.remove(0), 9);
        Due.is("remove(3)", suite.remove(3), 9);
        Due.corners(suite, 70, 9);
        Due.is("remove(1)", suite.remove(1), 9);
        Due.corners(suite, 70);
        Due.is("points() at one place still", suite.points(), 20);
        Due.cornersAnew(Shapes.HEAP, at(40, 50));
    }

    /** A point on a side is no corner; one that is out by the least there is, is one. */
    private static void straightSides() {
        Due.cornersAnew(new int[] {0, 63, 31, at(31, 9)}, 0, 63, at(31, 9));
        Due.cornersAnew(new int[] {0, 4095, 63, at(31, 31)}, 0, 63, 4095);
        Due.cornersAnew(new int[] {at(0, 9), at(9, 0), at(9, 9), at(3, 6), at(6, 3), at(9, 4), at(4, 9)},
            at(0, 9), at(9, 0), at(9, 9));
        Due.cornersAnew(new int[] {at(0, 0), at(1, 0), at(2, 0), at(1, 1)}, at(0, 0), at(2, 0), at(1, 1));
        Due.cornersAnew(new int[] {at(0, 1), at(1, 1), at(2, 1), at(1, 0)}, at(0, 1), at(1, 0), at(2, 1));
        Due.cornersAnew(new int[] {at(0, 0), at(0, 1), at(0, 2), at(1, 1)}, at(0, 0), at(1, 1), at(0, 2));
        Due.cornersAnew(new int[] {at(1, 0), at(1, 1), at(1, 2), at(0, 1)}, at(0, 1), at(1, 0), at(1, 2));
        Due.cornersAnew(new int[] {at(0, 1), at(62, 1), at(31, 0), at(31, 9)},
            at(0, 1), at(31, 0), at(62, 1), at(31, 9));
        Due.cornersAnew(new int[] {at(0, 1), at(62, 1), at(31, 2), at(31, 9)}, at(0, 1), at(62, 1), at(31, 9));
        Due.cornersAnew(new int[] {at(0, 0), at(63, 62), at(62, 61), at(31, 31)},
            at(0, 0), at(62, 61), at(63, 62), at(31, 31));
    }

    private static void straightSidesOfAGrid() {
        int[] grid = new int[24];
        for (int k = 0; k < 24; k++) {
            grid[k] = at(60 + k % 4, 40 + k / 4);
        }
        Due.cornersAnew(grid, at(60, 40), at(63, 40), at(63, 45), at(60, 45));
        Due.cornersAnew(Shapes.mixed(grid), at(60, 40), at(63, 40), at(63, 45), at(60, 45));
    }

    private static void counterclockwise() {
        Due.cornersAnew(new int[] {at(0, 5), at(5, 9), at(5, 1)}, at(0, 5), at(5, 1), at(5, 9));
        Due.cornersAnew(new int[] {at(0, 5), at(5, 1), at(5, 9)}, at(0, 5), at(5, 1), at(5, 9));
        Due.cornersAnew(Shapes.WHOLE, 0, 63, 4095, at(0, 63));
        Due.cornersAnew(Shapes.mixed(Shapes.ROUND), Shapes.ROUND);
        Due.cornersAnew(Shapes.mixed(Shapes.BOWL), Shapes.BOWL);
    }

    /** The least place is another one: it has the least y. */
    private static void firstByX() {
        Due.cornersAnew(new int[] {at(1, 0), at(0, 9), at(8, 9)}, at(0, 9), at(1, 0), at(8, 9));
        Due.cornersAnew(new int[] {at(63, 0), at(62, 63)}, at(62, 63), at(63, 0));
    }

    private static void firstByY() {
        Due.cornersAnew(new int[] {at(3, 8), at(3, 2), at(3, 5), at(9, 0)}, at(3, 2), at(9, 0), at(3, 8));
        Due.cornersAnew(new int[] {at(0, 63), at(0, 62), at(0, 0)}, at(0, 0), at(0, 63));
    }

    private static void borderOfFlatHulls() {
        Due.is("border() of one", Due.with(Shapes.ONE).border(), 1);
        Due.is("border() of a heap", Due.with(Shapes.HEAP).border(), Shapes.ALL);
        for (int[] line : Shapes.LINES) {
            HullSuite suite = Due.with(line);
            Due.is("border() of a line", suite.border(), Shapes.ALL);
            for (int place : line) {
                Due.is("holds(" + place + ") on a line", suite.holds(place), 1);
            }
        }
        HullSuite wedge = Due.with(at(0, 0), at(2, 1), at(1, 2), at(1, 1));
        Due.is("border() less what is within", wedge.border(), 7);
    }

    private static void doubledArea() {
        HullSuite suite = Due.with(at(10, 10), at(11, 10), at(10, 11));
        Due.area(suite, 1);
        Due.is("triangle() of a half", suite.triangle(), 1);
        Due.is("add", suite.add(at(11, 11)), 3);
        Due.area(suite, 2);
        Due.is("triangle() of a half still", suite.triangle(), 1);
    }

    private static void square() {
        Due.is("farthest() along x", Due.with(at(60, 7), at(57, 7)).farthest(), 9);
        Due.is("farthest() along y", Due.with(at(60, 3), at(60, 7)).farthest(), 16);
        Due.is("farthest() across", Due.with(at(60, 7), at(57, 3)).farthest(), 25);
        Due.is("farthest() across, falling", Due.with(at(60, 3), at(57, 7)).farthest(), 25);
    }

    private static void bits() {
        HullSuite suite = Due.with(Shapes.mixed(Shapes.ROUND));
        for (int k = 0; k < 24; k++) {
            Due.is("points() from " + k + " on", suite.points(), Shapes.ALL >> k << k);
            Due.is("border() from " + k + " on", suite.border(), Shapes.ALL >> k << k);
            suite.remove(k);
        }
        Due.is("points() of none", suite.points(), 0);
        Due.is("border() of none", suite.border(), 0);
    }

    private static void engines() {
        for (int[] shape : Shapes.all()) {
            HullSuite suite = Due.with(shape);
            for (int engine : new int[] {0, 1, 2, 3, 4, 5}) {
                Due.is("corners(" + engine + ") is there", suite.corners(engine) >= 0, true);
                Due.is("area(" + engine + ") is there", suite.area(engine) >= 0, true);
            }
            for (int engine : new int[] {-1, 6}) {
                Due.is("corners(" + engine + ")", suite.corners(engine), HullSuite.BAD);
                Due.is("area(" + engine + ")", suite.area(engine), HullSuite.BAD);
            }
        }
    }

    private static void anyEngine() {
        for (int[] shape : Shapes.all()) {
            HullSuite suite = Due.with(shape);
            int corners = suite.corners(0);
            Due.area(suite, suite.area(0));
            Due.forEachEngine(engine -> {
                Due.is("corners(" + engine + ")", suite.corners(engine), corners);
                for (int i = 0; i < corners; i++) {
                    Due.is("corner(" + engine + ", " + i + ")", suite.corner(engine, i), suite.corner(0, i));
                }
            });
        }
    }

    private static void newObject() {
        HullSuite suite = new HullSuite();
        Due.is("points()", suite.points(), 0);
        Due.is("border()", suite.border(), 0);
        Due.is("places()", suite.places(), 0);
        Due.corners(suite);
        for (int k = 0; k < 24; k++) {
            Due.is("remove(" + k + ")", suite.remove(k), HullSuite.BAD);
        }
        Due.is("add(9)", suite.add(9), 0);
    }

    private static void twoObjects() {
        HullSuite one = Due.with(9, 90, 900);
        HullSuite other = new HullSuite();
        Due.is("points() of the other", other.points(), 0);
        Due.is("add to the other", other.add(4095), 0);
        Due.is("remove of the other", other.remove(0), 4095);
        Due.is("points() of the one", one.points(), 7);
        Due.is("remove of the one", one.remove(0), 9);
    }
}
