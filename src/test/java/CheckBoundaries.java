import java.lang.reflect.Field;

/** Promise 26: what check tells of all kinds of desks, and of one that was spoilt from outside. */
public final class CheckBoundaries extends Checks {
    public static void main(String[] args) {
        Sentences.runAll(CheckBoundaries.class);
    }

    @Sentence(in = "Promise 26", words = "Whether all points lie in the hull")
    static void checkOfHulls() {
        due("none", desk().check(), 1);
        due("one", desk(8, 8).check(), 1);
        due("one place", atOnePlace(60).check(), 1);
        due("two", desk(8, 8, 3, 3).check(), 1);
        due("a line", desk(8, 8, 3, 3, 1, 1).check(), 1);
        due("a triangle", desk(0, 0, 1, 0, 0, 1).check(), 1);
        due("on its sides and within", desk(0, 0, 8, 0, 0, 8, 4, 0, 4, 4, 1, 1, 8, 0).check(), 1);
        due("60 corners", curve(60).check(), 1);
    }

    @Sentence(in = "Promise 26", words = "twice its area is what its corners go round")
    static void checkAtTheLimits() {
        due("the greatest area", desk(-100000, -100000, 100000, -100000, 100000, 100000,
                -100000, 100000).check(), 1);
        due("the least area", desk(-100000, -100000, 100000, 99999, -99999, -99999).check(), 1);
        due("far from the middle", desk(99999, 99999, 100000, 99999, 100000, 100000).check(), 1);
    }

    @Sentence(in = "Promise 26", words = "if the route is simple")
    static void checkOfRoutesThatAreNotSimple() {
        due("a bow", routed(0, 0, 4, 4, 4, 0, 0, 4).check(), 1);
        due("two places", routed(0, 0, 4, 4).check(), 1);
        due("three at one place", routed(2, 2, 2, 2, 2, 2).check(), 1);
        due("40 to and fro", toAndFro(40).check(), 1);
    }

    @Sentence(in = "Promise 26", words = "its triangles all turn to its inner side")
    static void checkOfSimpleRoutesOfBothHands() {
        PointDesk left = routed(10, 10, 18, 10, 18, 18, 12, 12, 10, 18);
        due("left round", left.check(), 1);
        left.turn(0, 4);
        due("right round", left.check(), 1);
        PointDesk least = routed(0, 0, 1, 0, 0, 1);
        due("the least, left round", least.check(), 1);
        least.turn(0, 2);
        due("the least, right round", least.check(), 1);
        due("with straight places", routed(0, 0, 4, 0, 8, 0, 8, 8, 4, 8, 0, 8, 0, 4).check(), 1);
    }

    @Sentence(in = "Promise 26", words = "twice their areas together are what it goes round")
    static void checkOfTheGreatestRoutes() {
        due("40 places", curveRouted(40).check(), 1);
        PointDesk far = routed(-100000, -100000, 100000, -100000, 100000, 100000,
                -100000, 100000, 99999, 0);
        due("at the limits", far.check(), 1);
        far.turn(0, 4);
        due("at the limits, right round", far.check(), 1);
    }

    @Sentence(in = "Promise 26", words = "it would tell 0")
    static void checkTells0OfAPointThatIsNotInTheHull() {
        PointDesk desk = desk(4, 4, 0, 0, 8, 0, 8, 8, 0, 8, 4, 4);
        due("before", desk.check(), 1);
        int[] xs = (int[]) held(held(desk, "points"), "xs");
        int[] within = {0, 5};
        for (int point : within) {
            xs[point] = 8;
            due("moved to the border", desk.check(), 1);
            xs[point] = 9;
            due("moved out of the hull that was found", desk.check(), 0);
            xs[point] = 4;
        }
    }

    @Sentence(in = "Promise 26", words = "it would tell 0")
    static void checkTells0OfATriangleThatDoesNotTurnInwards() {
        // In both the areas together are right: what one lacks the other has too much.
        PointDesk dent = routed(0, 0, 8, 0, 2, 2, 0, 8);
        due("before", dent.check(), 1);
        int[] cut = (int[]) held(held(dent, "triangles"), "cut");
        cut[0] = triangle(3, 0, 1);
        cut[1] = triangle(1, 2, 3);
        due("the second turns the other way", dent.check(), 0);
        PointDesk straight = routed(0, 0, 4, 0, 8, 0, 0, 8);
        due("before", straight.check(), 1);
        cut = (int[]) held(held(straight, "triangles"), "cut");
        cut[0] = triangle(0, 1, 2);
        cut[1] = triangle(0, 2, 3);
        due("the first does not turn", straight.check(), 0);
    }

    @Sentence(in = "Promise 26", words = "it would tell 0")
    static void checkTells0OfTrianglesThatDoNotFillTheRoute() {
        PointDesk desk = routed(0, 0, 8, 0, 9, 9, 0, 8);
        due("before", desk.check(), 1);
        int[] cut = (int[]) held(held(desk, "triangles"), "cut");
        int kept = cut[1];
        cut[1] = cut[0];
        due("one comes twice", desk.check(), 0);
        cut[1] = kept;
        due("as it was", desk.check(), 1);
    }

    /** No call can bring check to 0, so the tests reach into the object. */
    private static Object held(Object holder, String name) {
        try {
            Field field = holder.getClass().getDeclaredField(name);
            field.setAccessible(true);
            return field.get(holder);
        } catch (ReflectiveOperationException e) {
            throw new IllegalStateException("no field " + name + " to look at: " + e);
        }
    }
}
