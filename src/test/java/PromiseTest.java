/** The promises of the document one by one: ordinary inputs, the edges it names, wrong inputs. */
public final class PromiseTest {
    private static final int BAD = HullSuite.BAD;
    private static final int FULL = HullSuite.FULL;
    private static final int[] NO_PLACES =
        {-1, 4096, -64, 8191, BAD, FULL, Integer.MIN_VALUE, Integer.MAX_VALUE};
    private static final int[] NO_ENGINES = {-1, 6, 7, BAD, Integer.MIN_VALUE, Integer.MAX_VALUE};
    private static final int[] NO_POINTS = {-1, 24, 31, 32, 33, -32, Integer.MIN_VALUE, Integer.MAX_VALUE};

    private PromiseTest() {
    }

    public static void main(String[] args) {
        face();
        newObject();
        add();
        addUpToFull();
        remove();
        points();
        cornersOfFewPoints();
        cornersAnew();
        cornersOfFlatHulls();
        cornersOfFullHulls();
        cornersOfBowl();
        cornersOfRound();
        wrongEngines();
        agree();
        area();
        border();
        holds();
        holdsOnFlatHulls();
        farthest();
        extreme();
        triangle();
        layer();
        tangent();
        tangentInLine();
        places();
        Due.finish();
    }

    private static int at(int x, int y) {
        return Due.at(x, y);
    }

    /** Corners (2,2), (8,2), (8,6), (2,6), then points on two sides, within, and twice at a corner. */
    private static HullSuite box() {
        return Due.with(at(8, 6), at(2, 2), at(2, 6), at(8, 2),
            at(5, 2), at(8, 4), at(5, 4), at(8, 6), at(4, 3), at(4, 3));
    }

    private static void face() {
        Due.is("BAD", BAD, -10000);
        Due.is("FULL", FULL, -20000);
    }

    private static void newObject() {
        HullSuite suite = new HullSuite();
        Due.is("new: points()", suite.points(), 0);
        Due.corners(suite);
        Due.forEachEngine(engine -> Due.is("new: area(" + engine + ")", suite.area(engine), 0));
        Due.is("new: agree(0, 5)", suite.agree(0, 5), true);
        Due.is("new: border()", suite.border(), 0);
        Due.is("new: holds(0)", suite.holds(0), 0);
        Due.is("new: farthest()", suite.farthest(), BAD);
        Due.is("new: extreme(1, 1)", suite.extreme(1, 1), BAD);
        Due.is("new: extreme(0, 0)", suite.extreme(0, 0), BAD);
        Due.is("new: triangle()", suite.triangle(), 0);
        Due.is("new: layer(0)", suite.layer(0), BAD);
        Due.is("new: tangent(0)", suite.tangent(0), BAD);
        Due.is("new: places()", suite.places(), 0);
        Due.is("new: remove(0)", suite.remove(0), BAD);
    }

    private static void add() {
        HullSuite suite = Due.with(0, 4095, 0);
        Due.is("points()", suite.points(), 7);
        for (int place : NO_PLACES) {
            Due.is("add(" + place + ")", suite.add(place), BAD);
        }
        Due.is("points() after BAD", suite.points(), 7);
        Due.is("remove(1)", suite.remove(1), 4095);
        Due.is("remove(0)", suite.remove(0), 0);
        Due.is("add takes the least number", suite.add(100), 0);
        Due.is("add takes the next one", suite.add(101), 1);
        Due.is("add goes on behind", suite.add(102), 3);
        HullSuite other = new HullSuite();
        Due.is("another object has no points", other.points(), 0);
    }

    private static void addUpToFull() {
        HullSuite suite = new HullSuite();
        for (int k = 0; k < 24; k++) {
            Due.is("add " + k, suite.add(k * 65), k);
        }
        Due.is("add to 24", suite.add(5), FULL);
        Due.is("add to 24", suite.add(4095), FULL);
        for (int place : NO_PLACES) {
            Due.is("add(" + place + ") to 24", suite.add(place), BAD);
        }
        Due.is("points() of 24", suite.points(), (1 << 24) - 1);
        Due.corners(suite, 0, 23 * 65);
        Due.is("remove(23)", suite.remove(23), 23 * 65);
        Due.is("add for 23", suite.add(4095), 23);
        Due.is("remove(7)", suite.remove(7), 7 * 65);
        Due.is("add for 7", suite.add(9), 7);
        Due.is("add to 24 again", suite.add(9), FULL);
        Due.is("remove(7) again", suite.remove(7), 9);
    }

    private static void remove() {
        HullSuite suite = Due.with(7, 7, 4095, 0);
        for (int k : NO_POINTS) {
            Due.is("remove(" + k + ")", suite.remove(k), BAD);
        }
        Due.is("remove(4), never there", suite.remove(4), BAD);
        Due.is("points()", suite.points(), 15);
        Due.is("remove(2)", suite.remove(2), 4095);
        Due.is("remove(2) twice", suite.remove(2), BAD);
        Due.is("points()", suite.points(), 11);
        Due.is("remove(0) of two at a place", suite.remove(0), 7);
        Due.corners(suite, 0, 7);
        Due.is("remove(1)", suite.remove(1), 7);
        Due.corners(suite, 0);
        Due.is("remove(3) at place 0", suite.remove(3), 0);
        Due.corners(suite);
        Due.is("points()", suite.points(), 0);
    }

    private static void points() {
        HullSuite suite = Due.with(1, 2, 3, 4);
        Due.is("points() is a set", suite.points(), 15);
        Due.is("remove(1)", suite.remove(1), 2);
        Due.is("points() without 1", suite.points(), 13);
    }

    private static void cornersOfFewPoints() {
        Due.corners(Due.with(at(63, 63)), at(63, 63));
        Due.corners(Due.with(at(5, 9), at(5, 9), at(5, 9)), at(5, 9));
        Due.corners(Due.with(at(9, 1), at(3, 8)), at(3, 8), at(9, 1));
        Due.corners(Due.with(at(4, 8), at(4, 3), at(4, 8)), at(4, 3), at(4, 8));
        Due.corners(Due.with(at(3, 1), at(1, 3), at(0, 1)), at(0, 1), at(3, 1), at(1, 3));
        Due.corners(Due.with(at(0, 1), at(1, 3), at(3, 1)), at(0, 1), at(3, 1), at(1, 3));
    }

    private static void cornersAnew() {
        Due.cornersAnew(new int[] {});
        Due.cornersAnew(new int[] {at(9, 9)}, at(9, 9));
        Due.cornersAnew(new int[] {at(9, 9), at(1, 1), at(4, 4)}, at(1, 1), at(9, 9));
        Due.cornersAnew(new int[] {at(3, 4), at(9, 9), at(1, 1), at(7, 2)}, at(1, 1), at(7, 2), at(9, 9), at(3, 4));
    }

    private static void cornersOfFlatHulls() {
        Due.corners(Due.with(at(5, 7), at(9, 7), at(1, 7), at(3, 7)), at(1, 7), at(9, 7));
        Due.corners(Due.with(at(7, 5), at(7, 9), at(7, 1), at(7, 3)), at(7, 1), at(7, 9));
        Due.corners(Due.with(at(4, 8), at(2, 4), at(1, 2), at(3, 6)), at(1, 2), at(4, 8));
        Due.corners(Due.with(at(4, 1), at(2, 3), at(5, 0), at(3, 2)), at(2, 3), at(5, 0));
    }

    private static void cornersOfFullHulls() {
        Due.corners(box(), at(2, 2), at(8, 2), at(8, 6), at(2, 6));
        Due.corners(Due.with(0, 63, at(0, 63), 4095), 0, 63, 4095, at(0, 63));
        HullSuite wheel = Due.with(at(4, 0), at(0, 4), at(8, 4), at(4, 8), at(2, 2), at(6, 2), at(2, 6), at(6, 6),
            at(3, 3), at(1, 5), at(7, 7));
        Due.corners(wheel, at(0, 4), at(4, 0), at(8, 4), at(7, 7), at(4, 8));
        Due.is("remove(10)", wheel.remove(10), at(7, 7));
        Due.corners(wheel, at(0, 4), at(4, 0), at(8, 4), at(4, 8));
    }

    /** 24 corners, and all of them below the stretch from the first to the last. */
    private static void cornersOfBowl() {
        int[] dx = {4, 3, 2, 3, 4, 1, 3, 2, 1, 1, 1};
        int[] dy = {1, 1, 1, 2, 3, 1, 4, 3, 2, 3, 4};
        int[] places = new int[24];
        places[11] = at(30, 3);
        places[12] = at(31, 3);
        for (int i = 0; i < dx.length; i++) {
            places[10 - i] = places[11 - i] - dx[i] + 64 * dy[i];
            places[13 + i] = places[12 + i] + dx[i] + 64 * dy[i];
        }
        HullSuite bowl = new HullSuite();
        for (int k = 0; k < 24; k++) {
            Due.is("add to the bowl", bowl.add(places[k * 7 % 24]), k);
        }
        Due.corners(bowl, places);
        Due.is("border() of the bowl", bowl.border(), (1 << 24) - 1);
    }

    /** 24 corners on all sides, each side another direction. */
    private static void cornersOfRound() {
        int[] dx = {1, 1, 1, 2, 3, 1};
        int[] dy = {-3, -2, -1, -1, -1, 0};
        int[] places = new int[24];
        places[0] = at(11, 30);
        for (int i = 1; i < 24; i++) {
            int x = dx[(i - 1) % 6];
            int y = dy[(i - 1) % 6];
            for (int quarter = 0; quarter < (i - 1) / 6; quarter++) {
                int turned = x;
                x = -y;
                y = turned;
            }
            places[i] = places[i - 1] + x + 64 * y;
        }
        HullSuite round = new HullSuite();
        for (int k = 0; k < 24; k++) {
            Due.is("add to the round", round.add(places[k * 5 % 24]), k);
        }
        Due.corners(round, places);
    }

    private static void wrongEngines() {
        for (HullSuite suite : new HullSuite[] {new HullSuite(), box()}) {
            for (int engine : NO_ENGINES) {
                Due.is("corners(" + engine + ")", suite.corners(engine), BAD);
                Due.is("corner(" + engine + ", 0)", suite.corner(engine, 0), BAD);
                Due.is("area(" + engine + ")", suite.area(engine), BAD);
                Due.is("agree(" + engine + ", 0)", suite.agree(engine, 0), false);
                Due.is("agree(5, " + engine + ")", suite.agree(5, engine), false);
                Due.is("agree(" + engine + ", same)", suite.agree(engine, engine), false);
            }
        }
    }

    private static void agree() {
        for (HullSuite suite : new HullSuite[] {new HullSuite(), Due.with(9), Due.with(9, 4000), box()}) {
            Due.forEachEngine(engine -> Due.forEachEngine(other ->
                Due.is("agree(" + engine + ", " + other + ")", suite.agree(engine, other), true)));
        }
    }

    private static void area() {
        checkArea(Due.with(70), 0);
        checkArea(Due.with(70, 80, 90), 0);
        checkArea(Due.with(at(0, 0), at(1, 0), at(0, 1)), 1);
        checkArea(box(), 48);
        checkArea(Due.with(0, 63, at(0, 63), 4095), 2 * 63 * 63);
        checkArea(Due.with(at(1, 0), at(0, 2), at(3, 1), at(2, 3)), 10);
    }

    private static void checkArea(HullSuite suite, int want) {
        Due.forEachEngine(engine -> Due.is("area(" + engine + ")", suite.area(engine), want));
    }

    private static void border() {
        Due.is("border() of one", Due.with(9).border(), 1);
        Due.is("border() of two at a place", Due.with(9, 9).border(), 3);
        Due.is("border() of a stretch", Due.with(9, 11, 10, 10).border(), 15);
        HullSuite suite = box();
        Due.is("border() of the box", suite.border(), 0xBF);
        Due.is("remove(0)", suite.remove(0), at(8, 6));
        Due.is("border() of the box, 7 instead of 0", suite.border(), 0xBE);
        Due.is("remove(7)", suite.remove(7), at(8, 6));
        Due.is("border() of the box less a corner", suite.border(), 0x3E);
        HullSuite full = new HullSuite();
        for (int k = 0; k < 24; k++) {
            Due.is("add", full.add(4095), k);
        }
        Due.is("border() of 24 at a place", full.border(), (1 << 24) - 1);
    }

    private static void holds() {
        HullSuite suite = box();
        for (int x = 0; x < 64; x++) {
            for (int y = 0; y < 64; y++) {
                boolean in = x >= 2 && x <= 8 && y >= 2 && y <= 6;
                boolean within = x > 2 && x < 8 && y > 2 && y < 6;
                Due.is("box: holds(" + at(x, y) + ")", suite.holds(at(x, y)), within ? 2 : in ? 1 : 0);
            }
        }
        for (int place : NO_PLACES) {
            Due.is("holds(" + place + ")", suite.holds(place), BAD);
            Due.is("no points: holds(" + place + ")", new HullSuite().holds(place), BAD);
        }
        HullSuite all = Due.with(0, 63, at(0, 63), 4095);
        Due.is("holds(0)", all.holds(0), 1);
        Due.is("holds(4095)", all.holds(4095), 1);
        Due.is("holds(65)", all.holds(65), 2);
    }

    private static void holdsOnFlatHulls() {
        HullSuite one = Due.with(at(3, 3));
        Due.is("one: holds itself", one.holds(at(3, 3)), 1);
        Due.is("one: holds beside", one.holds(at(3, 4)), 0);
        Due.is("one: holds beside", one.holds(at(2, 3)), 0);
        HullSuite stretch = Due.with(at(5, 6), at(11, 4));
        Due.is("stretch: start", stretch.holds(at(5, 6)), 1);
        Due.is("stretch: end", stretch.holds(at(11, 4)), 1);
        Due.is("stretch: midst", stretch.holds(at(8, 5)), 1);
        Due.is("stretch: beyond", stretch.holds(at(14, 3)), 0);
        Due.is("stretch: before", stretch.holds(at(2, 7)), 0);
        Due.is("stretch: on the left", stretch.holds(at(8, 6)), 0);
        Due.is("stretch: on the right", stretch.holds(at(8, 4)), 0);
        HullSuite upright = Due.with(at(2, 6), at(2, 9));
        Due.is("upright: midst", upright.holds(at(2, 7)), 1);
        Due.is("upright: below", upright.holds(at(2, 5)), 0);
        Due.is("upright: above", upright.holds(at(2, 10)), 0);
    }

    private static void farthest() {
        Due.is("farthest() of one", Due.with(77).farthest(), 0);
        Due.is("farthest() of two at a place", Due.with(77, 77).farthest(), 0);
        Due.is("farthest() of two", Due.with(at(1, 9), at(4, 5)).farthest(), 25);
        Due.is("farthest() of the box", box().farthest(), 52);
        Due.is("farthest() of all", Due.with(4095, 4, 0).farthest(), 2 * 63 * 63);
    }

    private static void extreme() {
        HullSuite suite = box();
        Due.is("extreme(1, 0)", suite.extreme(1, 0), 8);
        Due.is("extreme(-1, 0)", suite.extreme(-1, 0), -2);
        Due.is("extreme(0, 1)", suite.extreme(0, 1), 6);
        Due.is("extreme(0, -1)", suite.extreme(0, -1), -2);
        Due.is("extreme(0, 0)", suite.extreme(0, 0), 0);
        Due.is("extreme(64, -64)", suite.extreme(64, -64), 64 * 6);
        Due.is("extreme(-64, 64)", suite.extreme(-64, 64), 64 * 4);
        Due.is("extreme(-64, -64)", Due.with(4095).extreme(-64, -64), -64 * 126);
        Due.is("extreme(64, 64)", Due.with(4095, 0).extreme(64, 64), 64 * 126);
        for (int d : new int[] {-65, 65, BAD, Integer.MIN_VALUE, Integer.MAX_VALUE}) {
            Due.is("extreme(" + d + ", 0)", suite.extreme(d, 0), BAD);
            Due.is("extreme(0, " + d + ")", suite.extreme(0, d), BAD);
            Due.is("no points: extreme(0, " + d + ")", new HullSuite().extreme(0, d), BAD);
        }
    }

    private static void triangle() {
        Due.is("triangle() of one", Due.with(8).triangle(), 0);
        Due.is("triangle() of two", Due.with(8, 900).triangle(), 0);
        Due.is("triangle() in line", Due.with(8, 9, 10, 11).triangle(), 0);
        Due.is("triangle() on the right", Due.with(at(0, 0), at(0, 1), at(1, 0)).triangle(), 1);
        Due.is("triangle() on the left", Due.with(at(0, 0), at(1, 0), at(0, 1)).triangle(), 1);
        Due.is("triangle() of the box", box().triangle(), 24);
        Due.is("triangle() of all", Due.with(0, 63, at(0, 63), 4095).triangle(), 63 * 63);
        Due.is("triangle() with a point twice", Due.with(0, 0, 3, at(1, 5)).triangle(), 15);
    }

    private static void layer() {
        HullSuite suite = box();
        int[] want = {0, 0, 0, 0, 0, 0, 1, 0, 1, 1};
        for (int k = 0; k < want.length; k++) {
            Due.is("layer(" + k + ")", suite.layer(k), want[k]);
        }
        for (int k : NO_POINTS) {
            Due.is("layer(" + k + ")", suite.layer(k), BAD);
        }
        Due.is("layer(10)", suite.layer(10), BAD);
        Due.is("points() after layer", suite.points(), 1023);
        HullSuite onion = new HullSuite();
        for (int k = 0; k < 24; k++) {
            int r = 10 - k / 3;
            int x = k % 3 == 0 ? 30 - r : k % 3 == 1 ? 30 + r : 30;
            int y = k % 3 == 2 ? 30 + r : 30 - r;
            Due.is("add to the onion", onion.add(at(x, y)), k);
        }
        for (int k = 0; k < 24; k++) {
            Due.is("onion: layer(" + k + ")", onion.layer(k), k / 3);
        }
        Due.is("remove(0)", onion.remove(0), at(20, 20));
        Due.is("onion: layer(0), gone", onion.layer(0), BAD);
        Due.is("onion: layer(3)", onion.layer(3), 0);
        Due.is("one: layer(0)", Due.with(5).layer(0), 0);
        HullSuite stretch = Due.with(5, 6, 7, 6);
        for (int k = 0; k < 4; k++) {
            Due.is("stretch: layer(" + k + ")", stretch.layer(k), 0);
        }
    }

    private static void tangent() {
        HullSuite suite = box();
        Due.is("from the left", suite.tangent(at(0, 4)), at(2, 6));
        Due.is("from the right", suite.tangent(at(20, 4)), at(8, 2));
        Due.is("from below", suite.tangent(at(5, 0)), at(2, 2));
        Due.is("from above", suite.tangent(at(5, 60)), at(8, 6));
        Due.is("from below on the left", suite.tangent(at(0, 0)), at(2, 6));
        Due.is("on a corner", suite.tangent(at(2, 2)), BAD);
        Due.is("on a side", suite.tangent(at(3, 2)), BAD);
        Due.is("within", suite.tangent(at(3, 3)), BAD);
        for (int place : NO_PLACES) {
            Due.is("tangent(" + place + ")", suite.tangent(place), BAD);
        }
        Due.is("of no points", new HullSuite().tangent(5), BAD);
        Due.is("of one", Due.with(at(5, 5)).tangent(at(9, 0)), at(5, 5));
        Due.is("of one, on it", Due.with(at(5, 5)).tangent(at(5, 5)), BAD);
        Due.is("of two, from below", Due.with(at(5, 5), at(9, 5)).tangent(at(7, 0)), at(5, 5));
        Due.is("of two, from above", Due.with(at(5, 5), at(9, 5)).tangent(at(7, 9)), at(9, 5));
        Due.is("of two, between", Due.with(at(5, 5), at(9, 5)).tangent(at(7, 5)), BAD);
    }

    /** Two corners in line with the place: the nearer one; points between them are none. */
    private static void tangentInLine() {
        HullSuite suite = box();
        Due.is("in line with the upper side, left", suite.tangent(at(0, 6)), at(2, 6));
        Due.is("in line with the lower side, right", suite.tangent(at(11, 2)), at(8, 2));
        Due.is("in line with the lower side, left", suite.tangent(at(0, 2)), at(2, 6));
        Due.is("in line with the upper side, right", suite.tangent(at(11, 6)), at(8, 2));
        Due.is("in line with the left side, below", suite.tangent(at(2, 0)), at(2, 2));
        Due.is("in line with the right side, above", suite.tangent(at(8, 9)), at(8, 6));
        HullSuite stretch = Due.with(at(5, 5), at(7, 6), at(9, 7));
        Due.is("in line, below", stretch.tangent(at(3, 4)), at(5, 5));
        Due.is("in line, above", stretch.tangent(at(11, 8)), at(9, 7));
    }

    private static void places() {
        Due.is("places() of one", Due.with(4095, 4095).places(), 1);
        Due.is("places() of a stretch", Due.with(at(1, 1), at(7, 4)).places(), 4);
        Due.is("places() of the box", box().places(), 35);
        Due.is("places() of all", Due.with(0, 63, at(0, 63), 4095).places(), 4096);
        Due.is("places() of a half", Due.with(0, 63, at(0, 63)).places(), 64 * 65 / 2);
        Due.is("places() of a wedge", Due.with(at(0, 0), at(3, 1), at(1, 3)).places(), 7);
    }
}
