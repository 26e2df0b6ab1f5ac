import java.util.ArrayList;
import java.util.Collection;
import java.util.Comparator;
import java.util.LinkedHashSet;
import java.util.List;

/**
 * Every set of places of a close grid. What is due is found by directions: a
 * corner is the one place that is farthest in some direction, and a place is
 * in the hull when in no direction it is farther than all points.
 */
public final class EverySubsetTest {
    private static final int WIDTH = 4;
    private static final int HEIGHT = 3;
    private static final int LEFT = 60;
    private static final int LOW = 61;
    /** Sides and tangents have steps of at most 4, so one direction within each corner has at most 8. */
    private static final int STEP = 8;
    private static final List<int[]> DIRECTIONS = directions();

    private final String name;
    private final List<Integer> places = new ArrayList<>();
    private final HullSuite suite;

    private EverySubsetTest(int set) {
        name = "set " + set + ": ";
        for (int bit = 0; bit < WIDTH * HEIGHT; bit++) {
            int cell = bit * 5 % (WIDTH * HEIGHT);
            if ((set >> cell & 1) == 1) {
                places.add(Due.at(LEFT + cell % WIDTH, LOW + cell / WIDTH));
            }
        }
        suite = Due.with(places.stream().mapToInt(place -> place).toArray());
    }

    public static void main(String[] args) {
        for (int set = 0; set < 1 << WIDTH * HEIGHT; set++) {
            EverySubsetTest test = new EverySubsetTest(set);
            test.corners();
            test.standings();
            test.layers();
            test.tangents();
        }
        Due.finish();
    }

    /** Counterclockwise, from the one in which the first corner is the farthest. */
    private static List<int[]> directions() {
        List<int[]> found = new ArrayList<>();
        for (int dx = -STEP; dx <= STEP; dx++) {
            for (int dy = -STEP; dy <= STEP; dy++) {
                if (dx != 0 || dy != 0) {
                    found.add(new int[] {dx, dy});
                }
            }
        }
        found.sort(Comparator.comparingDouble(d -> Math.atan2(d[1], d[0])));
        return found;
    }

    private static int along(int[] d, int place) {
        return d[0] * (place % 64) + d[1] * (place / 64);
    }

    private static int farthestAlong(int[] d, Collection<Integer> places) {
        return places.stream().mapToInt(place -> along(d, place)).max().orElse(Integer.MIN_VALUE);
    }

    private static int standing(Collection<Integer> places, int place) {
        int standing = 2;
        for (int[] d : DIRECTIONS) {
            int beyond = Integer.compare(farthestAlong(d, places), along(d, place));
            if (beyond < 0) {
                return 0;
            }
            standing = beyond == 0 ? 1 : standing;
        }
        return standing;
    }

    private void corners() {
        LinkedHashSet<Integer> want = new LinkedHashSet<>();
        for (int[] d : DIRECTIONS) {
            int most = farthestAlong(d, places);
            List<Integer> farthest = places.stream().filter(place -> along(d, place) == most).toList();
            if (farthest.size() == 1) {
                want.addAll(farthest);
            }
        }
        Due.corners(suite, want.stream().mapToInt(place -> place).toArray());
    }

    private static List<Integer> gridAndAround() {
        List<Integer> found = new ArrayList<>();
        for (int x = LEFT - 1; x < LEFT + WIDTH; x++) {
            for (int y = LOW - 1; y < LOW + HEIGHT; y++) {
                found.add(Due.at(x, y));
            }
        }
        return found;
    }

    private void standings() {
        int[] counts = new int[3];
        for (int place : gridAndAround()) {
            int want = standing(places, place);
            counts[want]++;
            Due.is(name + "holds(" + place + ")", suite.holds(place), want);
        }
        Due.is(name + "places()", suite.places(), counts[1] + counts[2]);
        // By Pick's theorem, which needs a hull that isn't flat.
        Due.area(suite, suite.corners(0) < 3 ? 0 : 2 * counts[2] + counts[1] - 2);
    }

    private void layers() {
        List<Integer> left = new ArrayList<>(places);
        for (int depth = 0; !left.isEmpty(); depth++) {
            List<Integer> inner = left.stream().filter(place -> standing(left, place) == 2).toList();
            int set = 0;
            for (int place : left) {
                if (!inner.contains(place)) {
                    int k = places.indexOf(place);
                    set |= 1 << k;
                    Due.is(name + "layer(" + k + ")", suite.layer(k), depth);
                }
            }
            if (depth == 0) {
                Due.is(name + "border()", suite.border(), set);
            }
            left.retainAll(inner);
        }
    }

    private void tangents() {
        for (int place : gridAndAround()) {
            int want = standing(places, place) == 0 ? tangent(place) : HullSuite.BAD;
            Due.is(name + "tangent(" + place + ")", suite.tangent(place), want);
        }
    }

    /** The nearest place ahead on a line through the place that has all points on its right or on it. */
    private int tangent(int from) {
        int want = HullSuite.BAD;
        int least = Integer.MAX_VALUE;
        for (int[] left : DIRECTIONS) {
            int[] ahead = {left[1], -left[0]};
            if (farthestAlong(left, places) == along(left, from)) {
                for (int place : places) {
                    int step = along(ahead, place) - along(ahead, from);
                    // Longer directions on the same line have longer steps.
                    if (along(left, place) == along(left, from) && step > 0 && step < least) {
                        want = place;
                        least = step;
                    }
                }
            }
        }
        return want;
    }
}
