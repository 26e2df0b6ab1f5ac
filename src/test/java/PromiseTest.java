/** Promises 2 to 16 one by one with ordinary inputs; BoundaryTest has their edges. */
public final class PromiseTest {
    private PromiseTest() {
    }

    public static void main(String[] args) {
        addAndRemove();
        corners();
        cornersAfterChanges();
        agree();
        area();
        border();
        holds();
        farthest();
        extreme();
        triangle();
        layer();
        tangent();
        places();
        Due.finish();
    }

    private static int at(int x, int y) {
        return Due.at(x, y);
    }

    /** Corners (2,2), (8,2), (8,6), (2,6), then points on two sides, within, and twice at a corner. */
    private static HullSuite box() {
        return Due.with(at(8, 6), at(2, 2), at(2, 6), at(8, 2),
            at(5, 2), at(8, 4), at(5, 4), at(8, 6), at(4, 3), at(4, 3));
    }

    private static HullSuite wheel() {
        return Due.with(at(4, 0), at(0, 4), at(8, 4), at(4, 8), at(2, 2), at(6, 2), at(2, 6), at(6, 6),
            at(3, 3), at(1, 5), at(7, 7));
    }

    private static void addAndRemove() {
        HullSuite suite = Due.with(7, 7, 4090, 5);
        Due.is("points() of four", suite.points(), 15);
        Due.is("remove(2)", suite.remove(2), 4090);
        Due.is("points() without 2", suite.points(), 11);
        Due.is("remove(0)", suite.remove(0), 7);
        Due.is("points() without 0", suite.points(), 10);
        Due.is("add takes the least number", suite.add(100), 0);
        Due.is("add takes the next one", suite.add(101), 2);
        Due.is("add goes on behind", suite.add(102), 4);
        Due.is("points() of five", suite.points(), 31);
        Due.is("remove(2), the new one", suite.remove(2), 101);
    }

    private static void corners() {
        Due.corners(box(), at(2, 2), at(8, 2), at(8, 6), at(2, 6));
        Due.corners(wheel(), at(0, 4), at(4, 0), at(8, 4), at(7, 7), at(4, 8));
        Due.cornersAnew(new int[] {at(9, 1), at(3, 8)}, at(3, 8), at(9, 1));
        Due.cornersAnew(new int[] {at(3, 1), at(1, 3), at(0, 1)}, at(0, 1), at(3, 1), at(1, 3));
        Due.cornersAnew(new int[] {at(3, 4), at(9, 9), at(1, 1), at(7, 2)},
            at(1, 1), at(7, 2), at(9, 9), at(3, 4));
        Due.cornersAnew(new int[] {at(5, 7), at(9, 7), at(1, 7), at(3, 7)}, at(1, 7), at(9, 7));
        Due.cornersAnew(new int[] {at(7, 5), at(7, 9), at(7, 1), at(7, 3)}, at(7, 1), at(7, 9));
        Due.cornersAnew(new int[] {at(4, 8), at(2, 4), at(1, 2), at(3, 6)}, at(1, 2), at(4, 8));
        Due.cornersAnew(new int[] {at(4, 1), at(2, 3), at(5, 0), at(3, 2)}, at(2, 3), at(5, 0));
    }

    private static void cornersAfterChanges() {
        HullSuite suite = wheel();
        Due.is("remove(10)", suite.remove(10), at(7, 7));
        Due.corners(suite, at(0, 4), at(4, 0), at(8, 4), at(4, 8));
        Due.is("remove(1)", suite.remove(1), at(0, 4));
        Due.corners(suite, at(1, 5), at(2, 2), at(4, 0), at(8, 4), at(4, 8));
        Due.is("add", suite.add(at(0, 0)), 1);
        Due.corners(suite, at(0, 0), at(4, 0), at(8, 4), at(4, 8), at(1, 5));
    }

    private static void agree() {
        for (HullSuite suite : new HullSuite[] {box(), wheel()}) {
            Due.forEachEngine(engine -> Due.forEachEngine(other ->
                Due.is("agree(" + engine + ", " + other + ")", suite.agree(engine, other), true)));
        }
    }

    private static void area() {
        Due.area(box(), 48);
        Due.area(wheel(), 72);
        Due.area(Due.with(at(1, 0), at(0, 2), at(3, 1), at(2, 3)), 10);
    }

    private static void border() {
        HullSuite suite = box();
        Due.is("border() of the box", suite.border(), 0xBF);
        Due.is("remove(0)", suite.remove(0), at(8, 6));
        Due.is("border() of the box, 7 instead of 0", suite.border(), 0xBE);
        Due.is("remove(7)", suite.remove(7), at(8, 6));
        Due.is("border() of the box less a corner", suite.border(), 0x3E);
    }

    private static void holds() {
        HullSuite suite = box();
        for (int x = 0; x < 12; x++) {
            for (int y = 0; y < 10; y++) {
                boolean has = x >= 2 && x <= 8 && y >= 2 && y <= 6;
                boolean within = x > 2 && x < 8 && y > 2 && y < 6;
                int want = within ? 2 : has ? 1 : 0;
                Due.is("holds(" + at(x, y) + ")", suite.holds(at(x, y)), want);
            }
        }
        HullSuite slanting = Due.with(at(1, 1), at(7, 4));
        Due.is("slanting: midst", slanting.holds(at(3, 2)), 1);
        Due.is("slanting: beside", slanting.holds(at(3, 3)), 0);
        Due.is("slanting: behind", slanting.holds(at(9, 5)), 0);
    }

    private static void farthest() {
        Due.is("farthest() of two", Due.with(at(1, 9), at(4, 5)).farthest(), 25);
        Due.is("farthest() of the box", box().farthest(), 52);
        Due.is("farthest() of the wheel", wheel().farthest(), 64);
    }

    private static void extreme() {
        HullSuite suite = box();
        Due.is("extreme(1, 0)", suite.extreme(1, 0), 8);
        Due.is("extreme(-1, 0)", suite.extreme(-1, 0), -2);
        Due.is("extreme(0, 1)", suite.extreme(0, 1), 6);
        Due.is("extreme(0, -1)", suite.extreme(0, -1), -2);
        Due.is("extreme(3, -5)", suite.extreme(3, -5), 14);
        Due.is("extreme(-7, 2)", suite.extreme(-7, 2), -2);
    }

    private static void triangle() {
        Due.is("triangle() of the box", box().triangle(), 24);
        Due.is("triangle() of the wheel", wheel().triangle(), 40);
        Due.is("triangle() with a point twice", Due.with(0, 0, 3, at(1, 5)).triangle(), 15);
    }

    private static void layer() {
        HullSuite suite = box();
        int[] want = {0, 0, 0, 0, 0, 0, 1, 0, 1, 1};
        for (int k = 0; k < want.length; k++) {
            Due.is("layer(" + k + ")", suite.layer(k), want[k]);
        }
        Due.is("points() after layer", suite.points(), 1023);
    }

    private static void tangent() {
        HullSuite suite = box();
        Due.is("from the left", suite.tangent(at(0, 4)), at(2, 6));
        Due.is("from the right", suite.tangent(at(20, 4)), at(8, 2));
        Due.is("from below", suite.tangent(at(5, 0)), at(2, 2));
        Due.is("from above", suite.tangent(at(5, 60)), at(8, 6));
        Due.is("from below on the left", suite.tangent(at(0, 0)), at(2, 6));
        Due.is("in line with the lower side, left", suite.tangent(at(0, 2)), at(2, 6));
        Due.is("in line with the upper side, right", suite.tangent(at(11, 6)), at(8, 2));
        Due.is("of two, from below", Due.with(at(5, 5), at(9, 5)).tangent(at(7, 0)), at(5, 5));
        Due.is("of two, from above", Due.with(at(5, 5), at(9, 5)).tangent(at(7, 9)), at(9, 5));
    }

    private static void places() {
        Due.is("places() of a stretch", Due.with(at(1, 1), at(7, 4)).places(), 4);
        Due.is("places() of the box", box().places(), 35);
        Due.is("places() of a half", Due.with(0, 63, at(0, 63)).places(), 64 * 65 / 2);
        Due.is("places() of a wedge", Due.with(at(0, 0), at(3, 1), at(1, 3)).places(), 7);
    }
}
