/** A test for each sentence of promises 2 to 16 that names a boundary case. */
public final class BoundaryTest {
    private static final int BAD = HullSuite.BAD;
    private static final int FULL = HullSuite.FULL;

    private BoundaryTest() {
    }

    public static void main(String[] args) {
        changes();
        engines();
        measures();
        standing();
        Due.finish();
    }

    private static void changes() {
        Due.sentence("2: answers the least number that none has", BoundaryTest::addTakesTheLeastNumber);
        Due.sentence("2: BAD when place is not 0 .. 4095", BoundaryTest::addNoPlace);
        Due.sentence("2: FULL when there are 24", BoundaryTest::addToFull);
        Due.sentence("2: tested in this order", BoundaryTest::addNoPlaceToFull);
        Due.sentence("3: takes point k away", BoundaryTest::removeTakesAway);
        Due.sentence("3: answers its place", BoundaryTest::removeAnswersThePlace);
        Due.sentence("3: BAD when there is none", BoundaryTest::removeNone);
        Due.sentence("4: the points", BoundaryTest::points);
    }

    private static void engines() {
        Due.sentence("5: the number of corners", BoundaryTest::corners);
        Due.sentence("5: BAD when there is no such engine", BoundaryTest::cornersByNoEngine);
        Due.sentence("6: corner i (0 the first)", BoundaryTest::corner);
        Due.sentence("6: BAD when there is none", BoundaryTest::cornerThatIsNone);
        Due.sentence("6: or no such engine", BoundaryTest::cornerByNoEngine);
        Due.sentence("7: whether two engines find the same corners", BoundaryTest::agree);
        Due.sentence("7: false when one is none", BoundaryTest::agreeWithNoEngine);
        Due.sentence("8: the doubled area of the hull", BoundaryTest::area);
        Due.sentence("8: 0 when there is no point", () -> Due.area(new HullSuite(), 0));
        Due.sentence("8: BAD when there is no such engine", BoundaryTest::areaByNoEngine);
    }

    private static void measures() {
        Due.sentence("11: the greatest square of the places of two points", BoundaryTest::farthest);
        Due.sentence("11: BAD when there is no point", BoundaryTest::farthestOfNone);
        Due.sentence("12: the greatest dx * x + dy * y", BoundaryTest::extreme);
        Due.sentence("12: BAD when there is no point", BoundaryTest::extremeOfNone);
        Due.sentence("12: or dx is not -64 .. 64", BoundaryTest::extremeBeyondDx);
        Due.sentence("12: or dy is not -64 .. 64", BoundaryTest::extremeBeyondDy);
        Due.sentence("13: the greatest doubled area of a triangle", BoundaryTest::triangle);
        Due.sentence("13: 0 when there are none", BoundaryTest::noTriangle);
        Due.sentence("16: how many places are in the hull", BoundaryTest::places);
    }

    private static void standing() {
        Due.sentence("9: the points on the border", BoundaryTest::border);
        Due.sentence("10: 2 when in the hull and not on its border", BoundaryTest::holdsWithin);
        Due.sentence("10: 1 when it is on it", BoundaryTest::holdsOnTheBorder);
        Due.sentence("10: 0 when it is not in the hull", BoundaryTest::holdsBeside);
        Due.sentence("10: or there is no point", BoundaryTest::holdsOfNone);
        Due.sentence("10: BAD when place is not 0 .. 4095", BoundaryTest::holdsNoPlace);
        Due.sentence("14: 0 when it is on the border", BoundaryTest::layerOfTheBorder);
        Due.sentence("14: 1 more than without the border", BoundaryTest::layersWithin);
        Due.sentence("14: all points on the border", BoundaryTest::layersWithoutAllOfTheBorder);
        Due.sentence("14: BAD when there is none", BoundaryTest::layerOfNone);
        Due.sentence("15: no point is on the left of the line", BoundaryTest::tangent);
        Due.sentence("15: of two such the one with the lesser square", BoundaryTest::tangentOfTwo);
        Due.sentence("15: BAD when the place is in the hull", BoundaryTest::tangentFromWithin);
        Due.sentence("15: or is no place", BoundaryTest::tangentFromNoPlace);
        Due.sentence("15: or there is no point", BoundaryTest::tangentOfNone);
    }

    private static int at(int x, int y) {
        return Due.at(x, y);
    }

    private static HullSuite[] noneAndOneAndFull() {
        return new HullSuite[] {new HullSuite(), Due.with(Shapes.ONE), Due.with(Shapes.ONION)};
    }

    private static void addTakesTheLeastNumber() {
        HullSuite suite = Due.with(Shapes.ROUND);
        for (int k : new int[] {23, 11, 0, 12}) {
            Due.is("remove(" + k + ")", suite.remove(k), Shapes.ROUND[k]);
        }
        for (int k : new int[] {0, 11, 12, 23}) {
            Due.is("add(7)", suite.add(7), k);
        }
        for (int k = 0; k < 24; k++) {
            suite.remove(k);
        }
        Due.is("add(7) when all have gone", suite.add(7), 0);
        Due.is("add(7) again", suite.add(7), 1);
    }

    private static void addNoPlace() {
        for (int place : Shapes.NO_PLACES) {
            HullSuite suite = new HullSuite();
            Due.is("add(" + place + ")", suite.add(place), BAD);
            Due.is("add(0)", suite.add(0), 0);
            Due.is("add(" + place + ") to one", suite.add(place), BAD);
            Due.is("add(4095)", suite.add(4095), 1);
            Due.is("points()", suite.points(), 3);
        }
    }

    private static void addToFull() {
        for (int[] shape : new int[][] {Shapes.HEAP, Shapes.FLAT, Shapes.ROUND, Shapes.ONION}) {
            HullSuite suite = Due.with(shape);
            Due.is("add(0) to 24", suite.add(0), FULL);
            Due.is("add(4095) to 24", suite.add(4095), FULL);
            Due.is("add where a point is", suite.add(shape[0]), FULL);
            Due.is("remove(13)", suite.remove(13), shape[13]);
            Due.is("add(0) to 23", suite.add(0), 13);
            Due.is("add(1) to 24", suite.add(1), FULL);
        }
    }

    private static void addNoPlaceToFull() {
        HullSuite suite = Due.with(Shapes.ROUND);
        for (int place : Shapes.NO_PLACES) {
            Due.is("add(" + place + ") to 24", suite.add(place), BAD);
        }
        Due.is("add(4095) to 24", suite.add(4095), FULL);
    }

    private static void removeTakesAway() {
        HullSuite suite = Due.with(Shapes.ROUND);
        for (int k : new int[] {0, 23, 12}) {
            int left = suite.points() & ~(1 << k);
            Due.is("remove(" + k + ")", suite.remove(k), Shapes.ROUND[k]);
            Due.is("points() without " + k, suite.points(), left);
            Due.is("holds of the place of " + k, suite.holds(Shapes.ROUND[k]), 0);
        }
        HullSuite last = Due.with(Shapes.ONE);
        Due.is("remove(0), the last", last.remove(0), Shapes.ONE[0]);
        Due.is("points() of none", last.points(), 0);
        Due.corners(last);
    }

    private static void removeAnswersThePlace() {
        HullSuite suite = Due.with(0, 4095, 63, at(0, 63), 63);
        Due.is("remove(0)", suite.remove(0), 0);
        Due.is("remove(1)", suite.remove(1), 4095);
        Due.is("remove(2)", suite.remove(2), 63);
        Due.is("remove(3)", suite.remove(3), at(0, 63));
        Due.is("remove(4)", suite.remove(4), 63);
        for (int[] shape : new int[][] {Shapes.HEAP, Shapes.FLAT, Shapes.ROUND, Shapes.ONION}) {
            HullSuite full = Due.with(shape);
            for (int k = 23; k >= 0; k--) {
                Due.is("remove(" + k + ") of 24", full.remove(k), shape[k]);
            }
        }
    }

    private static void removeNone() {
        for (HullSuite suite : noneAndOneAndFull()) {
            int set = suite.points();
            for (int k : Shapes.NO_NUMBERS) {
                Due.is("remove(" + k + ")", suite.remove(k), BAD);
            }
            Due.is("points()", suite.points(), set);
        }
        Due.is("remove(0) of none", new HullSuite().remove(0), BAD);
        Due.is("remove(1) of one", Due.with(Shapes.ONE).remove(1), BAD);
        for (int k : new int[] {0, 23}) {
            HullSuite suite = Due.with(Shapes.ROUND);
            Due.is("remove(" + k + ")", suite.remove(k), Shapes.ROUND[k]);
            Due.is("remove(" + k + ") twice", suite.remove(k), BAD);
        }
    }

    private static void points() {
        Due.is("points() of none", new HullSuite().points(), 0);
        Due.is("points() of one", Due.with(Shapes.ONE).points(), 1);
        Due.is("points() at one place", Due.with(Shapes.HEAP).points(), 0xFFFFFF);
        Due.is("points() on a line", Due.with(Shapes.FLAT).points(), 0xFFFFFF);
        HullSuite suite = Due.with(Shapes.ONION);
        Due.is("points() of 24", suite.points(), 0xFFFFFF);
        suite.remove(0);
        Due.is("points() without 0", suite.points(), 0xFFFFFE);
        suite.remove(23);
        Due.is("points() without 23", suite.points(), 0x7FFFFE);
    }

    private static void corners() {
        checkCount(0, Shapes.NONE);
        checkCount(1, Shapes.ONE);
        checkCount(1, Shapes.HEAP);
        for (int[] line : Shapes.LINES) {
            checkCount(2, line);
        }
        checkCount(2, 0, 4095);
        checkCount(3, Shapes.WEDGE);
        checkCount(3, Shapes.ONION);
        checkCount(4, Shapes.WHOLE);
        checkCount(24, Shapes.mixed(Shapes.ROUND));
        checkCount(24, Shapes.mixed(Shapes.BOWL));
    }

    private static void checkCount(int want, int... places) {
        HullSuite suite = Due.with(places);
        Due.forEachEngine(engine -> Due.is("corners(" + engine + ")", suite.corners(engine), want));
    }

    private static void cornersByNoEngine() {
        for (HullSuite suite : noneAndOneAndFull()) {
            for (int engine : Shapes.NO_ENGINES) {
                Due.is("corners(" + engine + ")", suite.corners(engine), BAD);
            }
        }
    }

    private static void corner() {
        Due.cornersAnew(Shapes.ONE, at(5, 9));
        Due.cornersAnew(Shapes.HEAP, at(40, 50));
        Due.cornersAnew(Shapes.heap(4095), 4095);
        Due.cornersAnew(Shapes.FLAT, at(17, 63), at(63, 63));
        Due.cornersAnew(Shapes.UPRIGHT, at(0, 17), at(0, 63));
        Due.cornersAnew(Shapes.RISING, at(0, 0), at(46, 46));
        Due.cornersAnew(Shapes.FALLING, at(10, 63), at(33, 17));
        Due.cornersAnew(Shapes.WEDGE, at(0, 0), at(2, 1), at(1, 2));
        Due.cornersAnew(Shapes.ONION, at(20, 20), at(40, 20), at(30, 40));
        Due.cornersAnew(Shapes.mixed(Shapes.ROUND), Shapes.ROUND);
    }

    private static void cornerThatIsNone() {
        checkNoCorner(Shapes.NONE, 0);
        checkNoCorner(Shapes.ONE, 1);
        checkNoCorner(Shapes.HEAP, 1);
        for (int[] line : Shapes.LINES) {
            checkNoCorner(line, 2);
        }
        checkNoCorner(Shapes.WEDGE, 3);
        checkNoCorner(Shapes.ROUND, 24);
    }

    private static void checkNoCorner(int[] places, int n) {
        HullSuite suite = Due.with(places);
        Due.forEachEngine(engine -> {
            for (int i : new int[] {-1, n, n + 1, 24, 25, 32, 64, -24, Integer.MIN_VALUE, Integer.MAX_VALUE}) {
                Due.is("corner(" + engine + ", " + i + ")", suite.corner(engine, i), BAD);
            }
            if (n > 0) {
                Due.is("corner(" + engine + ", the last) is there", suite.corner(engine, n - 1) >= 0, true);
            }
        });
    }

    private static void cornerByNoEngine() {
        for (HullSuite suite : noneAndOneAndFull()) {
            for (int engine : Shapes.NO_ENGINES) {
                Due.is("corner(" + engine + ", 0)", suite.corner(engine, 0), BAD);
                Due.is("corner(" + engine + ", -1)", suite.corner(engine, -1), BAD);
            }
        }
    }

    private static void agree() {
        for (int[] shape : Shapes.all()) {
            HullSuite suite = Due.with(shape);
            Due.forEachEngine(engine -> Due.forEachEngine(other ->
                Due.is("agree(" + engine + ", " + other + ")", suite.agree(engine, other), true)));
        }
    }

    private static void agreeWithNoEngine() {
        for (HullSuite suite : noneAndOneAndFull()) {
            for (int engine : Shapes.NO_ENGINES) {
                Due.is("agree(" + engine + ", 0)", suite.agree(engine, 0), false);
                Due.is("agree(" + engine + ", 5)", suite.agree(engine, 5), false);
                Due.is("agree(0, " + engine + ")", suite.agree(0, engine), false);
                Due.is("agree(5, " + engine + ")", suite.agree(5, engine), false);
                Due.is("agree(" + engine + ", the same)", suite.agree(engine, engine), false);
            }
            Due.is("agree(-1, 6)", suite.agree(-1, 6), false);
        }
    }

    private static void area() {
        Due.area(Due.with(Shapes.ONE), 0);
        Due.area(Due.with(Shapes.HEAP), 0);
        Due.area(Due.with(0, 4095), 0);
        for (int[] line : Shapes.LINES) {
            Due.area(Due.with(line), 0);
        }
        Due.area(Due.with(0, 63, at(62, 0), at(63, 1)), 63);
        Due.area(Due.with(at(63, 63), at(62, 63), at(63, 62)), 1);
        Due.area(Due.with(Shapes.WEDGE), 3);
        Due.area(Due.with(Shapes.ONION), 400);
        Due.area(Due.with(Shapes.WHOLE), 2 * 63 * 63);
    }

    private static void areaByNoEngine() {
        for (HullSuite suite : noneAndOneAndFull()) {
            for (int engine : Shapes.NO_ENGINES) {
                Due.is("area(" + engine + ")", suite.area(engine), BAD);
            }
        }
    }

    private static void farthest() {
        Due.is("farthest() of one", Due.with(Shapes.ONE).farthest(), 0);
        Due.is("farthest() of a heap", Due.with(Shapes.HEAP).farthest(), 0);
        Due.is("farthest() of two side by side", Due.with(63, 62).farthest(), 1);
        Due.is("farthest() of two a row apart", Due.with(63, 64).farthest(), 63 * 63 + 1);
        Due.is("farthest() of a flat line", Due.with(Shapes.FLAT).farthest(), 46 * 46);
        Due.is("farthest() of an upright line", Due.with(Shapes.UPRIGHT).farthest(), 46 * 46);
        Due.is("farthest() of a rising line", Due.with(Shapes.RISING).farthest(), 2 * 46 * 46);
        Due.is("farthest() of a falling line", Due.with(Shapes.FALLING).farthest(), 23 * 23 + 46 * 46);
        Due.is("farthest() of 24", Due.with(Shapes.ONION).farthest(), 10 * 10 + 20 * 20);
        Due.is("farthest() of the whole", Due.with(Shapes.WHOLE).farthest(), 2 * 63 * 63);
    }

    private static void farthestOfNone() {
        HullSuite suite = new HullSuite();
        Due.is("farthest() of none", suite.farthest(), BAD);
        suite.add(4095);
        Due.is("farthest() of one", suite.farthest(), 0);
        suite.remove(0);
        Due.is("farthest() of none left", suite.farthest(), BAD);
    }

    private static void extreme() {
        HullSuite one = Due.with(4095);
        Due.is("the least of all", one.extreme(-64, -64), -64 * 126);
        Due.is("the greatest of all", one.extreme(64, 64), 64 * 126);
        Due.is("the two against each other", one.extreme(-64, 64), 0);
        Due.is("no step", one.extreme(0, 0), 0);
        Due.is("of a heap", Due.with(Shapes.HEAP).extreme(-1, 64), -40 + 64 * 50);
        Due.is("of a flat line", Due.with(Shapes.FLAT).extreme(-64, 1), -64 * 17 + 63);
        Due.is("of an upright line", Due.with(Shapes.UPRIGHT).extreme(64, -1), -17);
        Due.is("of a rising line", Due.with(Shapes.RISING).extreme(-64, 64), 0);
        Due.is("of a falling line", Due.with(Shapes.FALLING).extreme(-64, -64), -64 * (33 + 17));
        Due.is("of the last of 24", Due.with(Shapes.RISING).extreme(64, 64), 64 * 92);
        Due.is("of the whole", Due.with(Shapes.WHOLE).extreme(-64, 64), 64 * 63);
    }

    private static void extremeOfNone() {
        HullSuite suite = new HullSuite();
        for (int d : new int[] {-65, -64, 0, 64, 65}) {
            Due.is("extreme(" + d + ", 0)", suite.extreme(d, 0), BAD);
            Due.is("extreme(0, " + d + ")", suite.extreme(0, d), BAD);
        }
        suite.add(0);
        Due.is("extreme(0, 0) of one", suite.extreme(0, 0), 0);
        suite.remove(0);
        Due.is("extreme(0, 0) of none left", suite.extreme(0, 0), BAD);
    }

    private static void extremeBeyondDx() {
        HullSuite suite = Due.with(at(1, 2));
        Due.is("extreme(-64, 3)", suite.extreme(-64, 3), -58);
        Due.is("extreme(64, 3)", suite.extreme(64, 3), 70);
        for (int dx : new int[] {-65, 65, -128, 128, 256, BAD, Integer.MIN_VALUE, Integer.MAX_VALUE}) {
            Due.is("extreme(" + dx + ", 3)", suite.extreme(dx, 3), BAD);
            Due.is("extreme(" + dx + ", 65)", suite.extreme(dx, 65), BAD);
        }
    }

    private static void extremeBeyondDy() {
        HullSuite suite = Due.with(at(1, 2));
        Due.is("extreme(3, -64)", suite.extreme(3, -64), -125);
        Due.is("extreme(3, 64)", suite.extreme(3, 64), 131);
        for (int dy : new int[] {-65, 65, -128, 128, 256, BAD, Integer.MIN_VALUE, Integer.MAX_VALUE}) {
            Due.is("extreme(3, " + dy + ")", suite.extreme(3, dy), BAD);
            Due.is("extreme(-65, " + dy + ")", suite.extreme(-65, dy), BAD);
        }
    }

    private static void triangle() {
        Due.is("the least", Due.with(0, 1, 64).triangle(), 1);
        Due.is("the least without the upper left", Due.with(0, 1, 65).triangle(), 1);
        Due.is("the least without the lower right", Due.with(0, 64, 65).triangle(), 1);
        Due.is("the least without the lower left", Due.with(1, 64, 65).triangle(), 1);
        Due.is("a thin one", Due.with(0, at(62, 62), at(63, 62)).triangle(), 62);
        Due.is("one that turns right", Due.with(64, 1, 0).triangle(), 1);
        Due.is("the greatest", Due.with(Shapes.WHOLE).triangle(), 63 * 63);
        Due.is("of 24", Due.with(Shapes.ONION).triangle(), 400);
        Due.is("with points at one place", Due.with(9, 9, 9, 12, at(9, 5), 12).triangle(), 15);
    }

    private static void noTriangle() {
        Due.is("of no point", new HullSuite().triangle(), 0);
        Due.is("of one", Due.with(Shapes.ONE).triangle(), 0);
        Due.is("of two", Due.with(0, 4095).triangle(), 0);
        Due.is("of 24 at one place", Due.with(Shapes.HEAP).triangle(), 0);
        Due.is("of five at two places", Due.with(0, 4095, 0, 4095, 4095).triangle(), 0);
        for (int[] line : Shapes.LINES) {
            Due.is("of 24 on a line", Due.with(line).triangle(), 0);
        }
    }

    private static void places() {
        Due.is("of no point", new HullSuite().places(), 0);
        Due.is("of one", Due.with(Shapes.ONE).places(), 1);
        Due.is("of a heap at the least place", Due.with(Shapes.heap(0)).places(), 1);
        Due.is("of a heap at the greatest place", Due.with(Shapes.heap(4095)).places(), 1);
        Due.is("of a flat line", Due.with(Shapes.FLAT).places(), 47);
        Due.is("of an upright line", Due.with(Shapes.UPRIGHT).places(), 47);
        Due.is("of a rising line", Due.with(Shapes.RISING).places(), 47);
        Due.is("of a falling line", Due.with(Shapes.FALLING).places(), 24);
        Due.is("of two with no place between", Due.with(0, at(63, 62)).places(), 2);
        Due.is("of a wedge", Due.with(Shapes.WEDGE).places(), 4);
        Due.is("of 24 in layers", Due.with(Shapes.ONION).places(), 221);
        Due.is("of the whole", Due.with(Shapes.WHOLE).places(), 4096);
        Due.is("of all but place 0", Due.with(1, 64, 63, 4095, at(0, 63)).places(), 4095);
        Due.is("of all but place 4095", Due.with(0, 63, at(63, 62), at(62, 63), at(0, 63)).places(), 4095);
    }

    private static void border() {
        Due.is("of no point", new HullSuite().border(), 0);
        Due.is("of one", Due.with(Shapes.ONE).border(), 1);
        Due.is("of 24 at one place", Due.with(Shapes.HEAP).border(), Shapes.ALL);
        for (int[] line : Shapes.LINES) {
            Due.is("of 24 on a line", Due.with(line).border(), Shapes.ALL);
        }
        Due.is("of 24 corners", Due.with(Shapes.mixed(Shapes.ROUND)).border(), Shapes.ALL);
        Due.is("of 24 in layers", Due.with(Shapes.ONION).border(), 7);
        HullSuite sides = Due.with(0, 63, 4095, 30, at(63, 30), at(30, 30), at(30, 29), 63, 30);
        Due.is("on the sides, but not beside them", sides.border(), 0x1BF);
        HullSuite last = Due.with(Shapes.mixed(Shapes.ROUND));
        for (int k = 0; k < 23; k++) {
            last.remove(k);
        }
        Due.is("of point 23 alone", last.border(), 1 << 23);
    }

    private static void holdsWithin() {
        Due.is("the only place within", Due.with(Shapes.WEDGE).holds(at(1, 1)), 2);
        HullSuite whole = Due.with(Shapes.WHOLE);
        for (int place : new int[] {at(1, 1), at(62, 1), at(1, 62), at(62, 62), at(31, 32)}) {
            Due.is("holds(" + place + ") of the whole", whole.holds(place), 2);
        }
        Due.is("where a point is", Due.with(Shapes.ONION).holds(at(27, 27)), 2);
        HullSuite thin = Due.with(0, at(63, 1), at(63, 2));
        Due.is("within a thin one", thin.holds(at(40, 1)), 2);
    }

    private static void holdsOnTheBorder() {
        Due.is("on one", Due.with(Shapes.ONE).holds(at(5, 9)), 1);
        Due.is("on a heap", Due.with(Shapes.HEAP).holds(at(40, 50)), 1);
        Due.is("on place 0", Due.with(0).holds(0), 1);
        Due.is("on place 4095", Due.with(4095).holds(4095), 1);
        Due.is("between points of a flat line", Due.with(Shapes.FLAT).holds(at(18, 63)), 1);
        Due.is("between points of an upright line", Due.with(Shapes.UPRIGHT).holds(at(0, 62)), 1);
        Due.is("between points of a rising line", Due.with(Shapes.RISING).holds(at(45, 45)), 1);
        Due.is("on the end of a falling line", Due.with(Shapes.FALLING).holds(at(33, 17)), 1);
        HullSuite whole = Due.with(Shapes.WHOLE);
        for (int i = 0; i < 64; i++) {
            Due.is("the lower side", whole.holds(at(i, 0)), 1);
            Due.is("the upper side", whole.holds(at(i, 63)), 1);
            Due.is("the left side", whole.holds(at(0, i)), 1);
            Due.is("the right side", whole.holds(at(63, i)), 1);
        }
    }

    private static void holdsBeside() {
        checkBeside(Shapes.ONE, at(4, 9), at(6, 9), at(5, 8), at(5, 10), at(4, 8), at(6, 10), 0, 4095);
        checkBeside(Shapes.HEAP, at(39, 50), at(41, 50), at(40, 49), at(40, 51));
        checkBeside(Shapes.FLAT, at(16, 63), at(0, 63), at(17, 62), at(63, 62));
        checkBeside(Shapes.UPRIGHT, at(0, 16), at(0, 0), at(1, 17), at(1, 63));
        checkBeside(Shapes.RISING, at(47, 47), at(1, 0), at(0, 1), at(46, 45), at(45, 46), 4095);
        checkBeside(Shapes.FALLING, at(34, 15), at(10, 62), at(11, 63), at(33, 18), at(11, 62));
        checkBeside(Shapes.WEDGE, at(1, 0), at(0, 1), at(2, 0), at(0, 2), at(2, 2), at(3, 3));
        checkBeside(Shapes.ONION, at(19, 20), at(41, 20), at(30, 41), at(30, 19), at(35, 31), at(25, 31));
    }

    private static void checkBeside(int[] places, int... beside) {
        HullSuite suite = Due.with(places);
        for (int place : beside) {
            Due.is("holds(" + place + ")", suite.holds(place), 0);
        }
    }

    private static void holdsOfNone() {
        HullSuite suite = new HullSuite();
        for (int place = 0; place < 4096; place += 65) {
            Due.is("holds(" + place + ")", suite.holds(place), 0);
        }
        Due.is("add(0)", suite.add(0), 0);
        Due.is("holds(0) of one", suite.holds(0), 1);
        Due.is("remove(0)", suite.remove(0), 0);
        Due.is("holds(0) of none left", suite.holds(0), 0);
    }

    private static void holdsNoPlace() {
        for (HullSuite suite : noneAndOneAndFull()) {
            for (int place : Shapes.NO_PLACES) {
                Due.is("holds(" + place + ")", suite.holds(place), BAD);
            }
        }
        HullSuite whole = Due.with(Shapes.WHOLE);
        Due.is("holds(-1)", whole.holds(-1), BAD);
        Due.is("holds(0)", whole.holds(0), 1);
        Due.is("holds(4095)", whole.holds(4095), 1);
        Due.is("holds(4096)", whole.holds(4096), BAD);
    }

    private static void layerOfTheBorder() {
        Due.is("one", Due.with(Shapes.ONE).layer(0), 0);
        for (int[] shape : new int[][] {Shapes.HEAP, Shapes.FLAT, Shapes.UPRIGHT, Shapes.RISING, Shapes.FALLING,
            Shapes.mixed(Shapes.ROUND), Shapes.mixed(Shapes.BOWL)}) {
            HullSuite suite = Due.with(shape);
            for (int k = 0; k < 24; k++) {
                Due.is("layer(" + k + ")", suite.layer(k), 0);
            }
        }
        HullSuite side = Due.with(0, 63, 4095, 30, 30);
        Due.is("on a side", side.layer(3), 0);
        Due.is("on a side too", side.layer(4), 0);
    }

    private static void layersWithin() {
        HullSuite onion = Due.with(Shapes.ONION);
        for (int k = 0; k < 24; k++) {
            Due.is("layer(" + k + ")", onion.layer(k), k / 3);
        }
        onion.remove(0);
        for (int k = 3; k < 24; k += 3) {
            Due.is("layer(" + k + ") without 0", onion.layer(k), k / 3 - 1);
            Due.is("layer(" + (k + 1) + ") without 0", onion.layer(k + 1), k / 3);
            Due.is("layer(" + (k + 2) + ") without 0", onion.layer(k + 2), k / 3);
        }
        checkLayers(new int[] {at(31, 30), 4095, 0, 63, at(0, 63)}, 1, 0, 0, 0, 0);
        checkLayers(new int[] {0, 63, at(0, 63), at(9, 9), at(9, 9), at(9, 9)}, 0, 0, 0, 1, 1, 1);
        checkLayers(new int[] {0, 63, at(0, 63), at(9, 9), at(10, 10), at(12, 12)}, 0, 0, 0, 1, 1, 1);
        checkLayers(new int[] {0, 63, at(0, 63), at(5, 5), at(9, 5), at(5, 9), at(6, 6)}, 0, 0, 0, 1, 1, 1, 2);
    }

    /** Not its corners alone, and every point of several at one place. */
    private static void layersWithoutAllOfTheBorder() {
        checkLayers(new int[] {0, 8, at(8, 8), at(0, 8), 4, at(8, 4), at(4, 8), at(0, 4), at(4, 4)},
            0, 0, 0, 0, 0, 0, 0, 0, 1);
        checkLayers(new int[] {0, 0, 0, 63, at(0, 63), at(9, 9), 63}, 0, 0, 0, 0, 0, 1, 0);
        HullSuite suite = Due.with(Shapes.ONION);
        for (int k = 23; k > 2; k--) {
            Due.is("layer(" + k + "), the last", suite.layer(k), k / 3);
            suite.remove(k);
        }
        Due.is("layer(2) when the inner ones have gone", suite.layer(2), 0);
    }

    private static void checkLayers(int[] places, int... want) {
        HullSuite suite = Due.with(places);
        for (int k = 0; k < want.length; k++) {
            Due.is("layer(" + k + ")", suite.layer(k), want[k]);
        }
        Due.is("layer(" + want.length + "), none", suite.layer(want.length), BAD);
    }

    private static void layerOfNone() {
        for (HullSuite suite : noneAndOneAndFull()) {
            for (int k : Shapes.NO_NUMBERS) {
                Due.is("layer(" + k + ")", suite.layer(k), BAD);
            }
        }
        HullSuite suite = Due.with(Shapes.ROUND);
        for (int k : new int[] {0, 23}) {
            Due.is("layer(" + k + ")", suite.layer(k), 0);
            suite.remove(k);
            Due.is("layer(" + k + ") when it has gone", suite.layer(k), BAD);
        }
        Due.is("layer(0) of none", new HullSuite().layer(0), BAD);
        Due.is("layer(23) of one", Due.with(Shapes.ONE).layer(23), BAD);
    }

    private static void tangent() {
        checkTangents(Shapes.ONE, new int[] {0, 4095, at(4, 9), at(6, 9), at(5, 8), at(5, 10)}, at(5, 9));
        checkTangents(Shapes.HEAP, new int[] {0, 4095, at(40, 49), at(41, 51)}, at(40, 50));
        checkTangents(Shapes.FLAT, new int[] {at(17, 62), at(63, 62), at(40, 0)}, at(17, 63));
        checkTangents(Shapes.UPRIGHT, new int[] {at(1, 17), at(1, 63), 4095}, at(0, 17));
        checkTangents(Shapes.RISING, new int[] {at(0, 1), at(45, 46), at(0, 63)}, at(46, 46));
        checkTangents(Shapes.RISING, new int[] {at(1, 0), at(46, 45), at(63, 0)}, at(0, 0));
        checkTangents(Shapes.FALLING, new int[] {at(11, 62), at(33, 18), 4095}, at(33, 17));
        checkTangents(Shapes.FALLING, new int[] {at(10, 62), at(32, 18), 0}, at(10, 63));
        checkTangents(Shapes.WEDGE, new int[] {at(1, 0), at(2, 0), at(3, 0)}, at(0, 0));
        checkTangents(Shapes.WEDGE, new int[] {at(2, 2), at(3, 3), at(63, 63), at(0, 4), at(0, 63)}, at(2, 1));
        checkTangents(Shapes.WEDGE, new int[] {at(0, 1), at(0, 2)}, at(1, 2));
        checkTangents(Shapes.ONION, new int[] {at(21, 19), at(30, 19), at(39, 0)}, at(20, 20));
    }

    private static void checkTangents(int[] places, int[] from, int want) {
        HullSuite suite = Due.with(places);
        for (int place : from) {
            Due.is("tangent(" + place + ")", suite.tangent(place), want);
        }
    }

    private static void tangentOfTwo() {
        checkTangents(Shapes.FLAT, new int[] {at(16, 63), at(0, 63)}, at(17, 63));
        checkTangents(Shapes.UPRIGHT, new int[] {at(0, 16), 0}, at(0, 17));
        checkTangents(Shapes.RISING, new int[] {at(47, 47), 4095}, at(46, 46));
        checkTangents(Shapes.FALLING, new int[] {at(34, 15), at(41, 1)}, at(33, 17));
        checkTangents(Shapes.WEDGE, new int[] {at(0, 3)}, at(1, 2));
        int[] box = {at(9, 9), at(20, 9), at(20, 30), at(9, 30), at(15, 9), at(20, 15)};
        checkTangents(box, new int[] {at(21, 9), at(63, 9)}, at(20, 9));
        checkTangents(box, new int[] {at(20, 31), at(20, 63)}, at(20, 30));
        checkTangents(box, new int[] {at(8, 30), at(0, 30)}, at(9, 30));
        checkTangents(box, new int[] {at(9, 8), at(9, 0)}, at(9, 9));
    }

    private static void tangentFromWithin() {
        checkTangents(Shapes.ONE, Shapes.ONE, BAD);
        checkTangents(Shapes.HEAP, new int[] {at(40, 50)}, BAD);
        checkTangents(Shapes.FLAT, new int[] {at(17, 63), at(18, 63), at(63, 63)}, BAD);
        checkTangents(Shapes.UPRIGHT, new int[] {at(0, 17), at(0, 18), at(0, 63)}, BAD);
        checkTangents(Shapes.RISING, new int[] {at(0, 0), at(45, 45), at(46, 46)}, BAD);
        checkTangents(Shapes.FALLING, new int[] {at(10, 63), at(20, 43), at(33, 17)}, BAD);
        checkTangents(Shapes.WEDGE, new int[] {at(0, 0), at(1, 1), at(2, 1), at(1, 2)}, BAD);
        checkTangents(Shapes.WHOLE, new int[] {0, 1, 64, 65, 4030, 4031, 4094, 4095}, BAD);
        checkTangents(Shapes.ROUND, Shapes.ROUND, BAD);
    }

    private static void tangentFromNoPlace() {
        for (HullSuite suite : noneAndOneAndFull()) {
            for (int place : Shapes.NO_PLACES) {
                Due.is("tangent(" + place + ")", suite.tangent(place), BAD);
            }
        }
        HullSuite suite = Due.with(at(30, 30));
        Due.is("tangent(-1)", suite.tangent(-1), BAD);
        Due.is("tangent(0)", suite.tangent(0), at(30, 30));
        Due.is("tangent(4095)", suite.tangent(4095), at(30, 30));
        Due.is("tangent(4096)", suite.tangent(4096), BAD);
    }

    private static void tangentOfNone() {
        HullSuite suite = new HullSuite();
        for (int place : new int[] {0, 65, 4095}) {
            Due.is("tangent(" + place + ")", suite.tangent(place), BAD);
        }
        Due.is("add(9)", suite.add(9), 0);
        Due.is("tangent(8) of one", suite.tangent(8), 9);
        Due.is("remove(0)", suite.remove(0), 9);
        Due.is("tangent(8) of none left", suite.tangent(8), BAD);
    }
}
