import java.util.ArrayList;
import java.util.List;
import java.util.function.ToIntFunction;

/** Promise 17: every refused call, alone on an object of its own, changes nothing. */
public final class RefusalTest {
    private static final int BAD = HullSuite.BAD;
    private static final int[] GAPS = {0, 11, 23};

    /** A call that is refused for the points that are there, and what it answers. */
    private record Refusal(String call, ToIntFunction<HullSuite> ask, int want) {
    }

    private RefusalTest() {
    }

    public static void main(String[] args) {
        for (int[] places : Shapes.all()) {
            check(places, new int[] {});
            if (places.length == 24) {
                check(places, GAPS);
            }
        }
        everyNumber();
        Due.finish();
    }

    private static HullSuite make(int[] places, int[] gaps) {
        HullSuite suite = Due.with(places);
        for (int k : gaps) {
            Due.is("remove(" + k + ")", suite.remove(k), places[k]);
        }
        return suite;
    }

    private static void check(int[] places, int[] gaps) {
        List<Integer> want = everyAnswer(make(places, gaps));
        for (Refusal refusal : refusals(places, make(places, gaps).points())) {
            Due.sentence("17: " + refusal.call() + " changes nothing", () -> {
                HullSuite suite = make(places, gaps);
                Due.is(refusal.call(), refusal.ask().applyAsInt(suite), refusal.want());
                compare(everyAnswer(suite), want);
            });
        }
    }

    private static void compare(List<Integer> got, List<Integer> want) {
        Due.is("answers", got.size(), want.size());
        for (int i = 0; i < want.size(); i++) {
            Due.is("then answer " + i, got.get(i), want.get(i));
        }
    }

    private static List<Refusal> refusals(int[] places, int set) {
        List<Refusal> refusals = new ArrayList<>();
        for (int k : new int[] {-1, 0, 11, 23, 24, 32, 55}) {
            if (k < 0 || k > 23 || (set >> k & 1) == 0) {
                refusals.add(new Refusal("remove(" + k + ")", suite -> suite.remove(k), BAD));
                refusals.add(new Refusal("layer(" + k + ")", suite -> suite.layer(k), BAD));
            }
        }
        for (int place : new int[] {-1, 4096, 4161}) {
            refusals.add(new Refusal("add(" + place + ")", suite -> suite.add(place), BAD));
            refusals.add(new Refusal("holds(" + place + ")", suite -> suite.holds(place), BAD));
            refusals.add(new Refusal("tangent(" + place + ")", suite -> suite.tangent(place), BAD));
        }
        for (int engine : new int[] {-1, 6}) {
            refusals.add(new Refusal("corners(" + engine + ")", suite -> suite.corners(engine), BAD));
            refusals.add(new Refusal("corner(" + engine + ", 0)", suite -> suite.corner(engine, 0), BAD));
            refusals.add(new Refusal("corner(5, " + 4 * engine + ")", suite -> suite.corner(5, 4 * engine), BAD));
            refusals.add(new Refusal("area(" + engine + ")", suite -> suite.area(engine), BAD));
            refusals.add(new Refusal("agree(" + engine + ", 0)", suite -> suite.agree(engine, 0) ? 1 : 0, 0));
            refusals.add(new Refusal("agree(0, " + engine + ")", suite -> suite.agree(0, engine) ? 1 : 0, 0));
        }
        for (int step : new int[] {-65, 65}) {
            refusals.add(new Refusal("extreme(" + step + ", 0)", suite -> suite.extreme(step, 0), BAD));
            refusals.add(new Refusal("extreme(0, " + step + ")", suite -> suite.extreme(0, step), BAD));
        }
        addThoseOfTheSet(refusals, places, set);
        return refusals;
    }

    private static void addThoseOfTheSet(List<Refusal> refusals, int[] places, int set) {
        if (set == 0) {
            refusals.add(new Refusal("farthest() of none", HullSuite::farthest, BAD));
            refusals.add(new Refusal("extreme(1, 1) of none", suite -> suite.extreme(1, 1), BAD));
            refusals.add(new Refusal("tangent(9) of none", suite -> suite.tangent(9), BAD));
        } else {
            int point = Integer.numberOfTrailingZeros(set);
            refusals.add(new Refusal("tangent from a point", suite -> suite.tangent(places[point]), BAD));
        }
        if (set == Shapes.ALL) {
            refusals.add(new Refusal("add(9) to 24", suite -> suite.add(9), HullSuite.FULL));
            refusals.add(new Refusal("add(-1) to 24", suite -> suite.add(-1), BAD));
        }
    }

    /** Fewer than 512 calls with those before, and in the end each point is taken away and one is added. */
    private static List<Integer> everyAnswer(HullSuite suite) {
        List<Integer> answers = new ArrayList<>();
        answers.add(suite.points());
        Due.forEachEngine(engine -> {
            answers.add(suite.corners(engine));
            answers.add(suite.area(engine));
            answers.add(suite.agree(engine, 5 - engine) ? 1 : 0);
            for (int i = 0; i < 24; i++) {
                answers.add(suite.corner(engine, i));
            }
        });
        answers.add(suite.border());
        answers.add(suite.farthest());
        answers.add(suite.extreme(3, -7));
        answers.add(suite.triangle());
        answers.add(suite.places());
        for (int place = 0; place < 4096; place += 52) {
            answers.add(suite.holds(place));
            answers.add(suite.tangent(place));
        }
        for (int k = 0; k < 24; k++) {
            answers.add(suite.layer(k));
        }
        answers.add(suite.points());
        for (int k = 0; k < 24; k++) {
            answers.add(suite.remove(k));
        }
        answers.add(suite.add(77));
        answers.add(suite.points());
        return answers;
    }

    /** Any call may come with any number: each must end without being thrown out. */
    private static void everyNumber() {
        int[] numbers = {0, 1, -1, 5, 6, 23, 24, 31, 32, 63, 64, -64, 65, -65, 4095, 4096,
            BAD, HullSuite.FULL, 1 << 30, Integer.MIN_VALUE, Integer.MIN_VALUE + 1, Integer.MAX_VALUE};
        for (int a : numbers) {
            HullSuite suite = Due.with(Shapes.ONION);
            for (int b : numbers) {
                boolean corner = a >= 0 && a < 6 && b >= 0 && b < 3;
                Due.is("corner(" + a + ", " + b + ") is there", suite.corner(a, b) != BAD, corner);
                boolean engines = a >= 0 && a < 6 && b >= 0 && b < 6;
                Due.is("agree(" + a + ", " + b + ")", suite.agree(a, b), engines);
                boolean steps = a >= -64 && a <= 64 && b >= -64 && b <= 64;
                Due.is("extreme(" + a + ", " + b + ") is there", suite.extreme(a, b) != BAD, steps);
            }
            Due.is("points() after all", suite.points(), Shapes.ALL);
        }
    }
}
