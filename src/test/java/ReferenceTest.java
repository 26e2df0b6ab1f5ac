import java.util.Random;

/** Runs of 512 calls, the same at each start, whose answers are compared with the model's. */
public final class ReferenceTest {
    private static final int RUNS = 600;
    private static final int CALLS = 512;

    private final Random random;
    private final int kind;
    private final HullSuite suite = new HullSuite();
    private final Model model = new Model();
    private final String name;

    private ReferenceTest(int run) {
        random = new Random(run);
        kind = run % 6;
        name = "run " + run + ": ";
    }

    public static void main(String[] args) {
        for (int run = 0; run < RUNS; run++) {
            ReferenceTest test = new ReferenceTest(run);
            for (int call = 0; call < CALLS; call++) {
                test.oneCall(call);
            }
        }
        Due.finish();
    }

    /** Few changes and many questions, so that the model need not find the corners too often. */
    private void oneCall(int call) {
        int chance = random.nextInt(40);
        if (call < 4 || chance < 3) {
            add();
        } else if (chance < 5) {
            remove();
        } else if (chance < 22) {
            askAnEngine(random.nextInt(4));
        } else if (chance < 30) {
            askForAMeasure(random.nextInt(7));
        } else {
            askAboutAPlace();
        }
    }

    private void add() {
        boolean none = random.nextInt(20) == 0;
        int place = none ? Shapes.NO_PLACES[random.nextInt(Shapes.NO_PLACES.length)] : somePlace();
        Due.is(name + "add(" + place + ")", suite.add(place), model.add(place));
    }

    private void remove() {
        int k = someNumber();
        Due.is(name + "remove(" + k + ")", suite.remove(k), model.remove(k));
    }

    private void askAnEngine(int question) {
        int engine = random.nextInt(8) - 1;
        int other = random.nextInt(8) - 1;
        int i = random.nextInt(12) - 1;
        switch (question) {
            case 0:
                Due.is(name + "corners(" + engine + ")", suite.corners(engine), model.corners(engine));
                break;
            case 1:
                Due.is(name + "area(" + engine + ")", suite.area(engine), model.area(engine));
                break;
            case 2:
                Due.is(name + "agree(" + engine + ", " + other + ")",
                    suite.agree(engine, other), model.agree(engine, other));
                break;
            default:
                Due.is(name + "corner(" + engine + ", " + i + ")", suite.corner(engine, i), model.corner(engine, i));
                break;
        }
    }

    private void askForAMeasure(int question) {
        int k = someNumber();
        int dx = random.nextInt(133) - 66;
        int dy = random.nextInt(133) - 66;
        switch (question) {
            case 0:
                Due.is(name + "points()", suite.points(), model.points());
                break;
            case 1:
                Due.is(name + "border()", suite.border(), model.border());
                break;
            case 2:
                Due.is(name + "farthest()", suite.farthest(), model.farthest());
                break;
            case 3:
                Due.is(name + "triangle()", suite.triangle(), model.triangle());
                break;
            case 4:
                Due.is(name + "places()", suite.places(), model.places());
                break;
            case 5:
                Due.is(name + "layer(" + k + ")", suite.layer(k), model.layer(k));
                break;
            default:
                Due.is(name + "extreme(" + dx + ", " + dy + ")", suite.extreme(dx, dy), model.extreme(dx, dy));
                break;
        }
    }

    private void askAboutAPlace() {
        int place = random.nextInt(4) == 0 ? random.nextInt(4200) - 52 : somePlace();
        if (random.nextBoolean()) {
            Due.is(name + "holds(" + place + ")", suite.holds(place), model.holds(place));
        } else {
            Due.is(name + "tangent(" + place + ")", suite.tangent(place), model.tangent(place));
        }
    }

    private int someNumber() {
        return random.nextInt(27) - 1;
    }

    /** Close grids make many points in line and at one place; the whole plane makes few. */
    private int somePlace() {
        switch (kind) {
            case 0:
                return Due.at(random.nextInt(4), random.nextInt(4));
            case 1:
                return Due.at(30 + random.nextInt(8), 50 + random.nextInt(8));
            case 2:
                return random.nextInt(4096);
            case 3:
                int step = random.nextInt(20);
                return Due.at(2 + 3 * step, 60 - 2 * step);
            case 4:
                return Due.at(random.nextInt(2) * 63, random.nextInt(64));
            default:
                double angle = random.nextInt(40) * Math.PI / 20;
                double radius = 6 + 5 * random.nextInt(5);
                return Due.at((int) (32 + radius * Math.cos(angle)), (int) (32 + radius * Math.sin(angle)));
        }
    }
}
