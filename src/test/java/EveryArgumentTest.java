/** On each shape, every argument within its bounds and the first beyond them, compared with the model. */
public final class EveryArgumentTest {
    private final Supply supply;
    private final Model model = new Model();

    private EveryArgumentTest(int[] places) {
        supply = new Supply(places);
        for (int place : places) {
            model.add(place);
        }
    }

    public static void main(String[] args) {
        for (int[] places : Shapes.all()) {
            EveryArgumentTest test = new EveryArgumentTest(places);
            test.engines();
            test.measures();
            test.steps();
            test.places();
        }
        Due.finish();
    }

    private void engines() {
        for (int engine = -1; engine <= 6; engine++) {
            Due.is("corners(" + engine + ")", supply.next().corners(engine), model.corners(engine));
            Due.is("area(" + engine + ")", supply.next().area(engine), model.area(engine));
            for (int i = -1; i <= 25; i++) {
                String call = "corner(" + engine + ", " + i + ")";
                Due.is(call, supply.next().corner(engine, i), model.corner(engine, i));
            }
            for (int other = -1; other <= 6; other++) {
                String call = "agree(" + engine + ", " + other + ")";
                Due.is(call, supply.next().agree(engine, other), model.agree(engine, other));
            }
        }
    }

    private void measures() {
        Due.is("points()", supply.next().points(), model.points());
        Due.is("border()", supply.next().border(), model.border());
        Due.is("farthest()", supply.next().farthest(), model.farthest());
        Due.is("triangle()", supply.next().triangle(), model.triangle());
        Due.is("places()", supply.next().places(), model.places());
        for (int k = -1; k <= 24; k++) {
            Due.is("layer(" + k + ")", supply.next().layer(k), model.layer(k));
        }
    }

    private void steps() {
        for (int dx = -65; dx <= 65; dx++) {
            for (int dy = -65; dy <= 65; dy++) {
                String call = "extreme(" + dx + ", " + dy + ")";
                Due.is(call, supply.next().extreme(dx, dy), model.extreme(dx, dy));
            }
        }
    }

    private void places() {
        for (int place = -1; place <= 4096; place++) {
            Due.is("holds(" + place + ")", supply.next().holds(place), model.holds(place));
            Due.is("tangent(" + place + ")", supply.next().tangent(place), model.tangent(place));
        }
    }
}
