import java.util.List;
import java.util.Random;

/** Runs of calls, the same at each start, whose answers are compared with the model's. */
public final class ReferenceTest {
    private static final int RUNS = 240;
    private static final int CHANGES = 40;

    private final Random random;
    private final int kind;
    private final HullSuite suite = new HullSuite();
    private final Model model = new Model();
    private final String name;

    private ReferenceTest(int run) {
        random = new Random(run);
        kind = run % 6;
        name = "run " + run + ": ";
    }

    public static void main(String[] args) {
        for (int run = 0; run < RUNS; run++) {
            new ReferenceTest(run).play();
        }
        Due.finish();
    }

    private void play() {
        for (int change = 0; change < CHANGES; change++) {
            boolean growing = change < 10 || random.nextInt(3) > 0;
            int number = random.nextInt(25);
            int place = anyPlace();
            if (growing) {
                Due.is(name + "add(" + place + ")", suite.add(place), model.add(place));
            } else {
                Due.is(name + "remove(" + number + ")", suite.remove(number), model.remove(number));
            }
            Due.is(name + "points()", suite.points(), model.points());
            if (change % 4 == 3) {
                compareEngines();
                compareMeasures();
                comparePlaces();
            }
        }
    }

    private void compareEngines() {
        List<Integer> corners = model.corners();
        int area = model.area();
        int[] want = corners.stream().mapToInt(Integer::intValue).toArray();
        Due.corners(suite, want);
        Due.cornersAnew(model.placesOfPoints(), want);
        Due.forEachEngine(engine -> {
            Due.is(name + "area(" + engine + ")", suite.area(engine), area);
            Due.forEachEngine(other ->
                Due.is(name + "agree(" + engine + ", " + other + ")", suite.agree(engine, other), true));
        });
    }

    private void compareMeasures() {
        Due.is(name + "border()", suite.border(), model.border());
        Due.is(name + "farthest()", suite.farthest(), model.farthest());
        Due.is(name + "triangle()", suite.triangle(), model.triangle());
        Due.is(name + "places()", suite.places(), model.places());
        for (int k = -1; k <= 24; k++) {
            Due.is(name + "layer(" + k + ")", suite.layer(k), model.layer(k));
        }
        for (int i = 0; i < 10; i++) {
            int dx = random.nextInt(133) - 66;
            int dy = random.nextInt(133) - 66;
            Due.is(name + "extreme(" + dx + ", " + dy + ")", suite.extreme(dx, dy), model.extreme(dx, dy));
        }
    }

    private void comparePlaces() {
        for (int i = 0; i < 30; i++) {
            int place = i < 20 ? anyPlace() : random.nextInt(4200) - 50;
            Due.is(name + "holds(" + place + ")", suite.holds(place), model.holds(place));
            Due.is(name + "tangent(" + place + ")", suite.tangent(place), model.tangent(place));
        }
    }

    /** Close grids make many points in line and at one place; the whole plane makes few. */
    private int anyPlace() {
        switch (kind) {
            case 0:
                return Due.at(random.nextInt(4), random.nextInt(4));
            case 1:
                return Due.at(30 + random.nextInt(8), 50 + random.nextInt(8));
            case 2:
                return random.nextInt(4096);
            case 3:
                int step = random.nextInt(20);
                return Due.at(2 + 3 * step, 60 - 2 * step);
            case 4:
                return Due.at(random.nextInt(2) * 63, random.nextInt(64));
            default:
                double angle = random.nextInt(40) * Math.PI / 20;
                double radius = 6 + 5 * random.nextInt(5);
                return Due.at((int) (32 + radius * Math.cos(angle)), (int) (32 + radius * Math.sin(angle)));
        }
    }
}
