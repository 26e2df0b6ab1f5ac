import java.util.ArrayList;
import java.util.Comparator;
import java.util.List;
import java.util.TreeMap;
import java.util.TreeSet;

/** The document's words taken one by one, slow and without any engine. */
final class Model {
    private final TreeMap<Integer, Integer> points;
    /** The corners when they have been asked for since the last change. */
    private List<Integer> known = null;

    Model() {
        this(new TreeMap<>());
    }

    private Model(TreeMap<Integer, Integer> points) {
        this.points = points;
    }

    int add(int place) {
        known = null;
        if (!isPlace(place)) {
            return HullSuite.BAD;
        }
        for (int k = 0; k < 24; k++) {
            if (points.putIfAbsent(k, place) == null) {
                return k;
            }
        }
        return HullSuite.FULL;
    }

    int remove(int k) {
        known = null;
        Integer place = points.remove(k);
        return place == null ? HullSuite.BAD : place;
    }

    int points() {
        return setOf(points.keySet());
    }

    int corners(int engine) {
        return isEngine(engine) ? corners().size() : HullSuite.BAD;
    }

    int corner(int engine, int i) {
        return isEngine(engine) && i >= 0 && i < corners().size() ? corners().get(i) : HullSuite.BAD;
    }

    boolean agree(int engine, int other) {
        return isEngine(engine) && isEngine(other);
    }

    private List<Integer> corners() {
        if (known == null) {
            known = findCorners();
        }
        return known;
    }

    /** The places of points that the hull of all others does not have, by their angle. */
    private List<Integer> findCorners() {
        List<Integer> corners = new ArrayList<>();
        for (int place : distinct()) {
            TreeSet<Integer> others = distinct();
            others.remove(place);
            if (!hullHas(others, place)) {
                corners.add(place);
            }
        }
        double x = corners.stream().mapToInt(Model::x).average().orElse(0);
        double y = corners.stream().mapToInt(Model::y).average().orElse(0);
        corners.sort(Comparator.comparingDouble(place -> Math.atan2(y(place) - y, x(place) - x)));
        Comparator<Integer> byX = Comparator.comparingInt(Model::x);
        for (int i = 0; i < corners.size(); i++) {
            if (corners.get(0).equals(corners.stream().min(byX.thenComparingInt(Model::y)).get())) {
                break;
            }
            corners.add(corners.remove(0));
        }
        return corners;
    }

    int area(int engine) {
        return isEngine(engine) ? area() : HullSuite.BAD;
    }

    /** By the shoelace formula. */
    private int area() {
        List<Integer> corners = corners();
        int sum = 0;
        for (int i = 0; i < corners.size(); i++) {
            int a = corners.get(i);
            int b = corners.get((i + 1) % corners.size());
            sum += x(a) * y(b) - x(b) * y(a);
        }
        return sum;
    }

    int border() {
        List<Integer> found = new ArrayList<>();
        points.forEach((k, place) -> {
            if (holds(place) == 1) {
                found.add(k);
            }
        });
        return setOf(found);
    }

    int holds(int place) {
        if (!isPlace(place)) {
            return HullSuite.BAD;
        }
        if (!hullHas(distinct(), place)) {
            return 0;
        }
        return hasLineWithAllOnOneSide(place) ? 1 : 2;
    }

    int farthest() {
        int most = HullSuite.BAD;
        for (int a : points.values()) {
            for (int b : points.values()) {
                most = Math.max(most, square(a, b));
            }
        }
        return most;
    }

    int extreme(int dx, int dy) {
        if (Math.abs((long) dx) > 64 || Math.abs((long) dy) > 64) {
            return HullSuite.BAD;
        }
        return points.values().stream().mapToInt(p -> dx * x(p) + dy * y(p)).max().orElse(HullSuite.BAD);
    }

    int triangle() {
        int most = 0;
        for (int a : distinct()) {
            for (int b : distinct()) {
                for (int c : distinct()) {
                    most = Math.max(most, Math.abs(side(a, b, c)));
                }
            }
        }
        return most;
    }

    int layer(int k) {
        if (!points.containsKey(k)) {
            return HullSuite.BAD;
        }
        int border = border();
        if ((border >> k & 1) == 1) {
            return 0;
        }
        TreeMap<Integer, Integer> inner = new TreeMap<>(points);
        inner.keySet().removeIf(number -> (border >> number & 1) == 1);
        return 1 + new Model(inner).layer(k);
    }

    int tangent(int place) {
        if (holds(place) != 0) {
            return HullSuite.BAD;
        }
        return corners().stream()
            .filter(corner -> points.values().stream().noneMatch(point -> side(place, corner, point) > 0))
            .min(Comparator.comparingInt(corner -> square(place, corner)))
            .orElse(HullSuite.BAD);
    }

    /** By Pick's theorem, which holds for a stretch and a single place too. */
    int places() {
        List<Integer> corners = corners();
        if (corners.isEmpty()) {
            return 0;
        }
        int onBorder = 0;
        for (int i = 0; i < corners.size(); i++) {
            int a = corners.get(i);
            int b = corners.get((i + 1) % corners.size());
            onBorder += commonDivisor(Math.abs(x(a) - x(b)), Math.abs(y(a) - y(b)));
        }
        return (area() + onBorder) / 2 + 1;
    }

    private TreeSet<Integer> distinct() {
        return new TreeSet<>(points.values());
    }

    private static boolean isPlace(int place) {
        return place >= 0 && place <= 4095;
    }

    private static boolean isEngine(int engine) {
        return engine >= 0 && engine <= 5;
    }

    private static int setOf(Iterable<Integer> numbers) {
        int set = 0;
        for (int k : numbers) {
            set += 1 << k;
        }
        return set;
    }

    private static int x(int place) {
        return place % 64;
    }

    private static int y(int place) {
        return place / 64;
    }

    private static int square(int a, int b) {
        return (x(a) - x(b)) * (x(a) - x(b)) + (y(a) - y(b)) * (y(a) - y(b));
    }

    /** Above 0 when c is on the left of the line from a to b. */
    private static int side(int a, int b, int c) {
        return (x(b) - x(a)) * (y(c) - y(a)) - (y(b) - y(a)) * (x(c) - x(a));
    }

    /** A hull has what the triangles and the stretches of its points have. */
    private static boolean hullHas(Iterable<Integer> places, int place) {
        for (int a : places) {
            for (int b : places) {
                if (stretchHas(a, b, place)) {
                    return true;
                }
                if (a < b) {
                    for (int c : places) {
                        if (b < c && triangleHas(a, b, c, place)) {
                            return true;
                        }
                    }
                }
            }
        }
        return false;
    }

    private static boolean stretchHas(int a, int b, int place) {
        return side(a, b, place) == 0
            && Math.min(x(a), x(b)) <= x(place) && x(place) <= Math.max(x(a), x(b))
            && Math.min(y(a), y(b)) <= y(place) && y(place) <= Math.max(y(a), y(b));
    }

    private static boolean triangleHas(int a, int b, int c, int place) {
        int doubled = Math.abs(side(a, b, c));
        int parts = Math.abs(side(a, b, place)) + Math.abs(side(b, c, place)) + Math.abs(side(c, a, place));
        return doubled > 0 && parts == doubled;
    }

    /** Such a line can be turned about the place until it has another point, if there is one. */
    private boolean hasLineWithAllOnOneSide(int place) {
        TreeSet<Integer> others = distinct();
        others.remove(place);
        return others.isEmpty() || others.stream().anyMatch(through ->
            others.stream().allMatch(other -> side(place, through, other) >= 0)
            || others.stream().allMatch(other -> side(place, through, other) <= 0));
    }

    private static int commonDivisor(int a, int b) {
        return b == 0 ? a : commonDivisor(b, a % b);
    }
}
