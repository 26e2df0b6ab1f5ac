import java.util.ArrayList;
import java.util.List;

/** Promise 17: a refused call changes nothing; nor does a call that only asks. */
public final class RefusalTest {
    private static final int[] WRONG =
        {-1, 4096, -64, 24, 25, 31, 32, 65, HullSuite.BAD, HullSuite.FULL, Integer.MIN_VALUE, Integer.MAX_VALUE};

    private RefusalTest() {
    }

    public static void main(String[] args) {
        for (int count : new int[] {0, 1, 2, 3, 9, 24}) {
            for (int gap : new int[] {-1, 0, 5, 23}) {
                checkRefusals(count, gap);
            }
        }
        anyArguments();
        Due.finish();
    }

    /** A new object with points here and there, and with none of one number. */
    private static HullSuite make(int count, int gap) {
        HullSuite suite = new HullSuite();
        for (int k = 0; k < count; k++) {
            Due.is("add", suite.add((k * k * 37 + 11 * k + 5) % 4096), k);
        }
        suite.remove(gap);
        return suite;
    }

    private static void checkRefusals(int count, int gap) {
        HullSuite untouched = make(count, gap);
        HullSuite suite = make(count, gap);
        int set = untouched.points();
        refuse(suite, set);
        Due.is("points() after refusals", suite.points(), set);
        List<Integer> want = everyAnswer(untouched);
        List<Integer> got = everyAnswer(suite);
        for (int i = 0; i < want.size(); i++) {
            Due.is("answer " + i + " after refusals, " + count + " points", got.get(i), want.get(i));
        }
        Due.is("points() after asking", suite.points(), set);
        int next = suite.add(77);
        int lowestFree = Integer.numberOfTrailingZeros(~set);
        Due.is("add after refusals", next, lowestFree < 24 ? lowestFree : HullSuite.FULL);
    }

    private static void refuse(HullSuite suite, int set) {
        for (int k = -2; k < 26; k++) {
            if (k < 0 || (set >> k & 1) == 0) {
                Due.is("remove(" + k + ")", suite.remove(k), HullSuite.BAD);
                Due.is("layer(" + k + ")", suite.layer(k), HullSuite.BAD);
            }
        }
        if (set == (1 << 24) - 1) {
            Due.is("add(1) to 24", suite.add(1), HullSuite.FULL);
        }
        for (int wrong : WRONG) {
            if (wrong < 0 || wrong > 4095) {
                Due.is("add(" + wrong + ")", suite.add(wrong), HullSuite.BAD);
                Due.is("holds(" + wrong + ")", suite.holds(wrong), HullSuite.BAD);
                Due.is("tangent(" + wrong + ")", suite.tangent(wrong), HullSuite.BAD);
            }
            Due.is("corners(" + wrong + ")", suite.corners(wrong), HullSuite.BAD);
            Due.is("corner(" + wrong + ", 0)", suite.corner(wrong, 0), HullSuite.BAD);
            Due.is("corner(0, " + wrong + ")", suite.corner(0, wrong < 24 ? -1 : wrong), HullSuite.BAD);
            Due.is("area(" + wrong + ")", suite.area(wrong), HullSuite.BAD);
            Due.is("agree(" + wrong + ", 0)", suite.agree(wrong, 0), false);
        }
    }

    private static List<Integer> everyAnswer(HullSuite suite) {
        List<Integer> answers = new ArrayList<>();
        for (int engine = 0; engine < 6; engine++) {
            answers.add(suite.corners(engine));
            answers.add(suite.area(engine));
            for (int i = 0; i < 24; i++) {
                answers.add(suite.corner(engine, i));
                answers.add(suite.layer(i));
            }
        }
        answers.add(suite.border());
        answers.add(suite.farthest());
        answers.add(suite.extreme(3, -7));
        answers.add(suite.triangle());
        answers.add(suite.places());
        for (int place = 0; place < 4096; place += 7) {
            answers.add(suite.holds(place));
            answers.add(suite.tangent(place));
        }
        return answers;
    }

    /** Any call may come with any number: each must end without being thrown out. */
    private static void anyArguments() {
        HullSuite suite = make(24, 3);
        int set = suite.points();
        for (int a : WRONG) {
            for (int b : WRONG) {
                suite.corner(a, b);
                suite.agree(a, b);
                Due.is("extreme(" + a + ", " + b + ")", suite.extreme(a, b) == HullSuite.BAD,
                    Math.abs((long) a) > 64 || Math.abs((long) b) > 64);
            }
        }
        Due.is("points() after any arguments", suite.points(), set);
    }
}
