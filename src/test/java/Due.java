import java.util.function.Consumer;

/** Counts and prints the calls whose answer is not the one that is due. */
final class Due {
    private static final int PRINTED = 50;
    private static String sentence = "";
    private static int compared = 0;
    private static int wrong = 0;

    private Due() {
    }

    /** A test of one sentence of the document, whose words are told with each wrong answer. */
    static void sentence(String words, Runnable test) {
        sentence = "\"" + words + "\": ";
        int before = compared;
        test.run();
        if (compared == before) {
            report("nothing was compared");
        }
        sentence = "";
    }

    static void is(String call, long got, long want) {
        compared++;
        if (got != want) {
            report(call + " answered " + got + ", due is " + want);
        }
    }

    static void is(String call, boolean got, boolean want) {
        is(call, got ? 1 : 0, want ? 1 : 0);
    }

    /** One call for each engine, since no answer depends on the engine. */
    static void forEachEngine(Consumer<Integer> check) {
        for (int engine = 0; engine < 6; engine++) {
            check.accept(engine);
        }
    }

    static int at(int x, int y) {
        return x + 64 * y;
    }

    /** A new object with points at these places. */
    static HullSuite with(int... places) {
        HullSuite suite = new HullSuite();
        for (int k = 0; k < places.length; k++) {
            is("add(" + places[k] + ")", suite.add(places[k]), k);
        }
        return suite;
    }

    /** The corners, by every engine. */
    static void corners(HullSuite suite, int... want) {
        forEachEngine(engine -> corners(suite, engine, want));
    }

    /** The corners, by every engine on a new object, so that no engine can use what another left. */
    static void cornersAnew(int[] places, int... want) {
        forEachEngine(engine -> {
            HullSuite suite = with(places);
            corners(suite, engine, want);
        });
    }

    /** The number of corners, each of them, and none before or behind. */
    private static void corners(HullSuite suite, int engine, int[] want) {
        is("corners(" + engine + ")", suite.corners(engine), want.length);
        for (int i = 0; i < want.length; i++) {
            is("corner(" + engine + ", " + i + ")", suite.corner(engine, i), want[i]);
        }
        for (int i : new int[] {-1, want.length, Integer.MIN_VALUE, Integer.MAX_VALUE}) {
            is("corner(" + engine + ", " + i + ")", suite.corner(engine, i), HullSuite.BAD);
        }
    }

    static void area(HullSuite suite, int want) {
        forEachEngine(engine -> is("area(" + engine + ")", suite.area(engine), want));
    }

    static void finish() {
        System.out.println(wrong + " of " + compared + " answers are not as due");
        if (wrong != 0) {
            System.exit(1);
        }
    }

    private static void report(String text) {
        wrong++;
        if (wrong <= PRINTED) {
            System.out.println(sentence + text);
        }
    }
}
