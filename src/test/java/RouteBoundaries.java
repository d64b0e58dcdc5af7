/** Each sentence about the route, its crossings and triangles that names a boundary. */
public final class RouteBoundaries extends Checks {
    private static final int[] BOW = {0, 0, 4, 4, 4, 0, 0, 4};
    private static final int[] SQUARE = {0, 0, 10, 0, 10, 10, 0, 10};

    public static void main(String[] args) {
        Sentences.runAll(RouteBoundaries.class);
    }

    private static PointDesk turnedRound(int... numbers) {
        PointDesk desk = routed(numbers);
        desk.turn(0, numbers.length / 2 - 1);
        return desk;
    }

    // ---- Terms: the route

    @Sentence(in = "Terms", words = "A ROUTE is a row of at most 40 points")
    static void fortyPlacesCanBeUsed() {
        PointDesk desk = curveRouted(40);
        due("count(3)", desk.count(3), 40);
        due("place(39)", desk.place(39), 39);
        due("simple()", desk.simple(), 1);
        due("inside(20, 401)", desk.inside(20, 401), 1);
        due("triangle(37)", desk.triangle(37), triangle(37, 38, 39));
        due("check()", desk.check(), 1);
    }

    @Sentence(in = "Terms", words = "(any, some perhaps several times)")
    static void onePointMayComeSeveralTimes() {
        PointDesk desk = curve(60);
        due("go(59)", desk.go(59), 1);
        due("go(59) again", desk.go(59), 2);
        due("go(0)", desk.go(0), 3);
        due("go(59) once more", desk.go(59), 4);
        dueRoute("one several times", desk, 59, 59, 0, 59);
        for (int i = 5; i <= 40; i++) {
            due("go(59) number " + i, desk.go(59), i);
        }
    }

    @Sentence(in = "Terms", words = "with PLACES from 0 on")
    static void theFirstPlaceIs0() {
        PointDesk desk = desk(0, 0, 5, 5);
        desk.go(1);
        due("place(0)", desk.place(0), 1);
        due("place(1)", desk.place(1), -1);
    }

    @Sentence(in = "Terms", words = "With three places or more its SIDE i goes from place i")
    static void sidesComeWithTheThirdPlace() {
        PointDesk desk = desk(0, 0, 9, 0, 4, 0);
        go(desk, 0, 1);
        dueCrossings("two places", desk);
        go(desk, 0, 0);
        dueCrossings("one point twice", desk);
        due("round() of two", routed(1, 0, 0, 1).round(), 0);
        go(desk, 0, 1, 2);
        dueCrossings("three places there and back", desk, 1, 2);
        due("round() of three", routed(1, 0, 0, 1, -1, 0).round(), 2);
    }

    @Sentence(in = "Terms", words = "the last one's to place 0")
    static void theLastSideGoesBackToPlace0() {
        dueCrossings("it crosses side 1", routed(0, 0, 4, 0, 0, 4, 4, 4), 64 + 3);
        due("round()", routed(1, 1, 5, 1, 5, 4).round(), 12);
        PointDesk desk = routed(0, 0, 8, 0, 8, 8);
        due("inside on it", desk.inside(4, 4), 0);
        due("inside one step beyond it", desk.inside(4, 5), -1);
        due("inside one step before it", desk.inside(5, 4), 1);
    }

    @Sentence(in = "Terms", words = "Sides that come one behind the other share the place between")
    static void sidesBehindEachOtherDoNotCrossAtTheirPlace() {
        dueCrossings("three sides", routed(0, 0, 9, 0, 0, 9));
        dueCrossings("four sides", routed(0, 0, 9, 0, 9, 9, 0, 9));
        dueCrossings("straight on", routed(0, 0, 4, 0, 9, 0, 0, 9));
        dueCrossings("straight on at place 0", routed(4, 0, 9, 0, 0, 9, 0, 0));
        dueCrossings("a sharp turn", routed(-100000, -100000, 100000, 100000, -100000, -99999));
    }

    @Sentence(in = "Terms", words = "two sides CROSS, if they share another place of the plane")
    static void sidesThatFoldBackCross() {
        dueCrossings("halfway back", routed(0, 0, 6, 0, 3, 0, 3, 9), 1, 2);
        dueCrossings("one step beside it", routed(0, 0, 6, 0, 3, 1, 3, 9));
        dueCrossings("back beyond the start", routed(3, 0, 6, 0, 0, 0, 0, 9), 1, 64 + 3);
        dueCrossings("the last side and the first", routed(3, 0, 6, 0, 0, 6, 9, 0), 3, 64 + 3);
        dueCrossings("the last side and the first, one step beside",
                routed(3, 1, 6, 1, 0, 6, -1, 0));
        dueCrossings("the whole way back", toAndFro(3), 1);
        dueCrossings("one step and back", routed(0, 0, 1, 0, 0, 0), 1);
        dueCrossings("one side at one place, in the middle",
                routed(0, 0, 5, 5, 5, 5, 9, 0), 2);
    }

    @Sentence(in = "Terms", words = "or have no such place between them and share one")
    static void sidesApartCrossWhenTheyMeet() {
        dueCrossings("through each other", routed(BOW), 2);
        dueCrossings("touched by a place", routed(0, 0, 8, 0, 8, 4, 4, 0, 0, 4), 2, 3);
        dueCrossings("one step above", routed(0, 0, 8, 0, 8, 4, 4, 1, 0, 4));
        dueCrossings("two places at one", routed(0, 0, 4, 0, 2, 2, 4, 4, 0, 4, 2, 2),
                64 + 4, 64 + 5, 128 + 4, 128 + 5);
        dueCrossings("along each other", routed(0, 0, 8, 0, 8, 5, 6, 0, 2, 0, 0, 5),
                2, 3, 4);
        dueCrossings("on one line, end to end",
                routed(0, 0, 2, 0, 2, 5, 4, 5, 2, 0, 6, 0, 6, 9, 0, 9), 3, 4, 64 + 3, 64 + 4);
        dueCrossings("on one line, one step apart",
                routed(0, 0, 2, 0, 2, 5, 3, 5, 3, 0, 6, 0, 6, 9, 0, 9));
        dueCrossings("just through each other at the limits",
                routed(-100000, -100000, 100000, 99999, 99999, 99998, -99999, -99999), 2);
    }

    @Sentence(in = "Terms", words = "It is SIMPLE, if it has three places or more")
    static void simpleComesWithTheThirdPlace() {
        PointDesk desk = desk(0, 0, 4, 0, 0, 4);
        due("none", desk.simple(), 0);
        desk.go(0);
        due("one", desk.simple(), 0);
        desk.go(1);
        due("two", desk.simple(), 0);
        desk.go(2);
        due("three", desk.simple(), 1);
        due("40", curveRouted(40).simple(), 1);
    }

    @Sentence(in = "Terms", words = "all its points are at different places")
    static void simpleHasNoTwoPointsAtOnePlace() {
        PointDesk three = routed(2, 2, 2, 2, 2, 2);
        due("crossings() of three at one place", three.crossings(), 0);
        due("simple() of three at one place", three.simple(), 0);
        go(three, 1, 1, 1);
        due("simple() of one point three times", three.simple(), 0);
        due("two behind each other", routed(0, 0, 0, 0, 5, 0, 0, 5).simple(), 0);
        due("one step apart in x", routed(0, 0, 1, 0, 5, 0, 0, 5).simple(), 1);
        due("one step apart in y", routed(0, 0, 0, -1, 5, 0, 0, 5).simple(), 1);
        due("the first and the last", routed(0, 0, 5, 0, 0, 5, 0, 0).simple(), 0);
    }

    @Sentence(in = "Terms", words = "and no sides cross")
    static void simpleHasNoSidesThatCross() {
        due("a bow", routed(BOW).simple(), 0);
        due("the bow undone", routed(0, 0, 4, 0, 4, 4, 0, 4).simple(), 1);
        due("touched", routed(0, 0, 8, 0, 8, 4, 4, 0, 0, 4).simple(), 0);
        due("nearly touched", routed(0, 0, 8, 0, 8, 4, 4, 1, 0, 4).simple(), 1);
        due("three on one line", routed(0, 0, 4, 0, 9, 0).simple(), 0);
        due("one step beside the line", routed(0, 0, 4, 1, 9, 0).simple(), 1);
        due("straight on", routed(0, 0, 4, 0, 9, 0, 9, 9).simple(), 1);
    }

    // ---- Terms: triangles

    @Sentence(in = "Terms", words = "as long as more than three places are left")
    static void threePlacesAreOneTriangleAndFourAreTwo() {
        dueTriangles("three", routed(0, 0, 4, 0, 0, 4), 0, 1, 2);
        dueTriangles("four", routed(0, 0, 4, 0, 4, 4, 0, 4), 3, 0, 1, 1, 2, 3);
        dueTriangles("five", routed(0, 0, 4, 0, 5, 3, 2, 6, -1, 3), 4, 0, 1, 4, 1, 2, 2, 3, 4);
    }

    @Sentence(in = "Terms", words = "the first place (in order) that is an EAR is cut off")
    static void theFirstEarIsCutOffAndTheSearchStartsAnew() {
        dueTriangles("place 0", routed(3, 1, 3, 4, 0, 4, 1, 0), 3, 0, 1, 1, 2, 3);
        dueTriangles("place 1, since 0 is none", routed(0, 0, 8, 0, 2, 2, 0, 8),
                0, 1, 2, 0, 2, 3);
        dueTriangles("place 2, since 0 and 1 are none",
                routed(4, 3, 0, 4, 0, 0, 2, 2, 4, 0), 1, 2, 3, 0, 1, 3, 0, 3, 4);
        dueTriangles("place 0 becomes one when 1 is cut off",
                routed(0, 0, 1, 3, 2, 2, 3, 2, 3, 1), 0, 1, 2, 4, 0, 2, 2, 3, 4);
        dueTriangles("place 1 becomes one when 2 is cut off",
                routed(3, 0, 1, 3, 0, 2, 1, 2, 1, 0), 1, 2, 3, 0, 1, 3, 0, 3, 4);
    }

    @Sentence(in = "Terms", words = "the place left before it (the last one before the first)")
    static void beforePlace0ComesTheLastOne() {
        due("of four", routed(0, 0, 4, 0, 4, 4, 0, 4).triangle(0), triangle(3, 0, 1));
        due("of 40", curveRouted(40).triangle(0), triangle(39, 0, 1));
        due("when place 0 is gone", curveRouted(40).triangle(1), triangle(39, 1, 2));
    }

    @Sentence(in = "Terms", words = "turns to the side on which the route's inner lies")
    static void earsTurnInwards() {
        dueTriangles("left round, a dent at 0", routed(2, 2, 0, 8, 0, 0, 8, 0), 0, 1, 2, 0, 2, 3);
        dueTriangles("right round, a dent at 0", routed(2, 2, 8, 0, 0, 0, 0, 8),
                0, 1, 2, 0, 2, 3);
        dueTriangles("right round", turnedRound(0, 0, 4, 0, 4, 4, 0, 4), 3, 0, 1, 1, 2, 3);
    }

    @Sentence(in = "Terms", words = "turns to the side on which the route's inner lies")
    static void aStraightPlaceIsNoEarAndOneStepOutsideItIs() {
        dueTriangles("straight", routed(3, 0, 4, 0, 2, 3, 2, 0), 0, 1, 2, 0, 2, 3);
        dueTriangles("one step outside", routed(3, -1, 4, 0, 2, 3, 2, 0), 3, 0, 1, 1, 2, 3);
        dueTriangles("one step within", routed(3, 1, 4, 0, 2, 3, 2, 0), 0, 1, 2, 0, 2, 3);
    }

    @Sentence(in = "Terms", words = "no other place that is left lies in that triangle")
    static void aPlaceWithinHinders() {
        dueTriangles("within", routed(0, 0, 8, 0, 3, 3, 0, 8), 0, 1, 2, 0, 2, 3);
        dueTriangles("one step outside", routed(0, 0, 8, 0, 4, 5, 0, 8), 3, 0, 1, 1, 2, 3);
    }

    @Sentence(in = "Terms", words = "or on its border")
    static void aPlaceOnTheBorderHinders() {
        dueTriangles("on the way from before to behind", routed(0, 0, 8, 0, 4, 4, 0, 8),
                0, 1, 2, 0, 2, 3);
        dueTriangles("beside three others on a line", routed(2, 2, 0, 0, 1, 0, 2, 0),
                0, 1, 2, 0, 2, 3);
        dueTriangles("one that does not come next",
                routed(0, 0, 8, 0, 8, 8, 4, 4, 1, 8), 1, 2, 3, 0, 1, 3, 0, 3, 4);
    }

    @Sentence(in = "Terms", words = "those cut off, in turn, and the last three places")
    static void theLastThreePlacesAreTheLastTriangle() {
        PointDesk desk = curveRouted(40);
        for (int i = 0; i < 37; i++) {
            due("triangle(" + i + ")", desk.triangle(i), triangle(39, i, i + 1));
        }
        due("triangle(37)", desk.triangle(37), triangle(37, 38, 39));
        due("triangle(38)", desk.triangle(38), -1);
    }

    // ---- Promise 16

    @Sentence(in = "Promise 16", words = "The route goes on to a point: how many places it has.")
    static void goTellsFrom1To40() {
        PointDesk desk = desk(0, 0, 9, 9);
        for (int i = 1; i <= 40; i++) {
            due("go number " + i, desk.go(i % 2), i);
            due("place(" + (i - 1) + ")", desk.place(i - 1), i % 2);
        }
    }

    @Sentence(in = "Promise 16", words = "NONE, and nothing is done, when there is no such point")
    static void goRefusesBeforeTheFirstAndBehindTheLastPoint() {
        PointDesk desk = desk(0, 0, 9, 9);
        int[] none = {-1, 2, 60, MAX, MIN};
        for (int point : none) {
            due("go(" + point + ")", desk.go(point), -1);
        }
        due("count(3)", desk.count(3), 0);
        due("go(0)", desk.go(0), 1);
        due("go(1)", desk.go(1), 2);
        due("go(0) without points", desk().go(0), -1);
        PointDesk full = curve(60);
        due("go(60) of 60", full.go(60), -1);
        due("go(59) of 60", full.go(59), 1);
    }

    @Sentence(in = "Promise 16", words = "or it has 40")
    static void goRefusesPlace40AndNotPlace39() {
        PointDesk desk = toAndFro(39);
        due("with 39", desk.go(0), 40);
        due("with 40", desk.go(1), -1);
        due("count(3)", desk.count(3), 40);
        due("place(39)", desk.place(39), 0);
        due("with 40, and no such point", desk.go(2), -1);
        desk.stop();
        due("when they are gone", desk.go(1), 1);
    }

    // ---- Promise 17

    @Sentence(in = "Promise 17", words = "The route is empty")
    static void stopEmptiesTheRouteAndLeavesThePoints() {
        PointDesk desk = routed(0, 0, 4, 0, 0, 4);
        due("simple() before", desk.simple(), 1);
        due("triangle(0) before", desk.triangle(0), triangle(0, 1, 2));
        desk.stop();
        dueRoute("behind stop", desk);
        due("simple()", desk.simple(), 0);
        due("round()", desk.round(), 0);
        due("triangle(0)", desk.triangle(0), -1);
        due("inside(1, 1)", desk.inside(1, 1), -2);
        due("count(0)", desk.count(0), 3);
        due("area()", desk.area(), 16);
    }

    @Sentence(in = "Promise 17", words = "how many places it had")
    static void stopTellsFrom0To40() {
        int[] counts = {0, 1, 39, 40};
        for (int count : counts) {
            PointDesk desk = toAndFro(count);
            due("stop() of " + count, desk.stop(), count);
            due("stop() again", desk.stop(), 0);
        }
    }

    // ---- Promise 18

    @Sentence(in = "Promise 18", words = "NONE when there is none such")
    static void placeBeforeTheFirstAndBehindTheLast() {
        PointDesk desk = desk(0, 0, 4, 0, 0, 4);
        go(desk, 2, 0, 2);
        due("place(0)", desk.place(0), 2);
        due("place(2)", desk.place(2), 2);
        int[] none = {-1, 3, 40, MAX, MIN};
        for (int i : none) {
            due("place(" + i + ")", desk.place(i), -1);
        }
        due("place(0) of no route", desk(1, 1).place(0), -1);
        PointDesk full = toAndFro(40);
        due("place(39) of 40", full.place(39), 1);
        due("place(40) of 40", full.place(40), -1);
    }

    // ---- Promise 19

    @Sentence(in = "Promise 19", words = "The places of the route from i to k")
    static void turnTakesBothEndsAndNoMore() {
        PointDesk desk = routed(0, 0, 4, 0, 4, 4, 0, 4, 2, 7, 1, 6);
        desk.turn(1, 4);
        dueRoute("an even number", desk, 0, 4, 3, 2, 1, 5);
        desk.turn(1, 3);
        dueRoute("an odd number", desk, 0, 2, 3, 4, 1, 5);
        desk.turn(0, 5);
        dueRoute("all", desk, 5, 1, 4, 3, 2, 0);
        desk.turn(4, 5);
        dueRoute("the last two", desk, 5, 1, 4, 3, 0, 2);
        desk.turn(0, 1);
        dueRoute("the first two", desk, 1, 5, 4, 3, 0, 2);
    }

    @Sentence(in = "Promise 19", words = "The places of the route from i to k")
    static void turnIsSeenByAllThatAskForTheRoute() {
        PointDesk desk = routed(0, 0, 4, 0, 4, 4, 0, 4);
        due("simple() before", desk.simple(), 1);
        due("triangle(0) before", desk.triangle(0), triangle(3, 0, 1));
        due("round() before", desk.round(), 32);
        desk.turn(0, 1);
        dueCrossings("two turned", desk, 64 + 3);
        due("simple()", desk.simple(), 0);
        due("triangle(0)", desk.triangle(0), -1);
        due("round()", desk.round(), 0);
        due("inside(2, 1)", desk.inside(2, 1), -2);
    }

    @Sentence(in = "Promise 19", words = "i not above k")
    static void turnOfOnePlaceAndOfNone() {
        PointDesk desk = routed(0, 0, 4, 0, 4, 4);
        for (int i = 0; i < 3; i++) {
            desk.turn(i, i);
            dueRoute("turn(" + i + ", " + i + ")", desk, 0, 1, 2);
        }
        dueTurnThrows(desk, 1, 0);
        dueTurnThrows(desk, 2, 1);
        dueTurnThrows(desk, 2, 0);
        dueRoute("i above k", desk, 0, 1, 2);
    }

    @Sentence(in = "Promise 19", words = "IndexOutOfBoundsException when there are none such")
    static void turnThrowsBeforeTheFirstAndBehindTheLastPlace() {
        PointDesk desk = routed(0, 0, 4, 0, 4, 4);
        int[][] none = {{-1, 2}, {-1, -1}, {0, 3}, {3, 3}, {2, 3}, {0, MAX}, {MIN, 2}, {MIN, MAX},
            {MIN, MIN}, {MAX, MAX}, {MAX, MIN}};
        for (int[] ends : none) {
            dueTurnThrows(desk, ends[0], ends[1]);
        }
        dueRoute("none such", desk, 0, 1, 2);
        dueTurnThrows(desk(1, 1), 0, 0);
        PointDesk full = toAndFro(40);
        full.turn(0, 39);
        due("place(0) of 40", full.place(0), 1);
        dueTurnThrows(full, 0, 40);
        dueTurnThrows(full, 40, 40);
    }

    // ---- Promise 20

    @Sentence(in = "Promise 20", words = "How many pairs of sides of the route cross.")
    static void crossingsFromNoneToAll() {
        due("no route", desk().crossings(), 0);
        due("one place", toAndFro(1).crossings(), 0);
        due("two places", toAndFro(2).crossings(), 0);
        due("three places", toAndFro(3).crossings(), 1);
        due("four places", toAndFro(4).crossings(), 6);
        due("40 places", toAndFro(40).crossings(), 780);
        due("40 places that do not cross", curveRouted(40).crossings(), 0);
        due("three at one place", routed(2, 2, 2, 2, 2, 2).crossings(), 0);
        due("four at one place", routed(2, 2, 2, 2, 2, 2, 2, 2).crossings(), 2);
    }

    @Sentence(in = "Promise 20", words = "How many pairs of sides of the route cross.")
    static void crossingsFollowTheRoute() {
        PointDesk desk = routed(BOW);
        due("a bow", desk.crossings(), 1);
        desk.turn(1, 2);
        due("turned", desk.crossings(), 0);
        desk.turn(2, 3);
        due("turned again", desk.crossings(), 1);
        desk.turn(2, 3);
        desk.go(0);
        due("one more place", desk.crossings(), 1);
        desk.stop();
        due("stopped", desk.crossings(), 0);
    }

    // ---- Promise 21

    @Sentence(in = "Promise 21", words = "by the first one, then by the second one")
    static void crossingsComeInOrder() {
        dueCrossings("a star", routed(0, 100, -59, -81, 95, 31, -95, 31, 59, -81),
                2, 3, 64 + 3, 64 + 4, 128 + 4);
        PointDesk most = toAndFro(40);
        due("the first", most.crossing(0), 1);
        due("the last of side 0", most.crossing(38), 39);
        due("the first of side 1", most.crossing(39), 64 + 2);
        due("the last", most.crossing(779), 64 * 38 + 39);
    }

    @Sentence(in = "Promise 21", words = "NONE when there is none such")
    static void crossingBeforeTheFirstAndBehindTheLast() {
        PointDesk desk = routed(BOW);
        due("crossing(0)", desk.crossing(0), 2);
        int[] none = {-1, 1, 780, MAX, MIN};
        for (int i : none) {
            due("crossing(" + i + ")", desk.crossing(i), -1);
        }
        due("crossing(780) of 780", toAndFro(40).crossing(780), -1);
        due("crossing(0) of no route", desk().crossing(0), -1);
        due("crossing(0) of two places", toAndFro(2).crossing(0), -1);
        due("crossing(0) of a simple route", routed(0, 0, 4, 0, 0, 4).crossing(0), -1);
    }

    // ---- Promise 22

    @Sentence(in = "Promise 22", words = "Whether the route is simple: 1, else 0.")
    static void simpleFollowsTheRoute() {
        PointDesk desk = routed(0, 0, 4, 0, 4, 4);
        due("three", desk.simple(), 1);
        desk.add(3, -3);
        due("a point that is not on it", desk.simple(), 1);
        desk.go(3);
        due("a place that crosses", desk.simple(), 0);
        desk.turn(1, 3);
        due("turned, and others cross", desk.simple(), 0);
        desk.turn(2, 3);
        due("turned so that none cross", desk.simple(), 1);
        desk.go(4);
        due("a place that is refused", desk.simple(), 1);
        desk.stop();
        due("stopped", desk.simple(), 0);
    }

    // ---- Promise 23

    @Sentence(in = "Promise 23", words = "(0 with less than three places)")
    static void roundWithLessThanThreePlaces() {
        due("none", desk(3, 4).round(), 0);
        due("one", routed(3, 4).round(), 0);
        due("two", routed(3, 4, -5, 6).round(), 0);
        due("three", routed(3, 4, -5, 6, 0, 0).round(), 38);
    }

    @Sentence(in = "Promise 23", words = "these together")
    static void roundFromTheLeastToTheGreatest() {
        int[] limits = {-100000, -100000, 100000, -100000, 100000, 100000, -100000, 100000};
        PointDesk desk = desk(limits);
        for (int i = 0; i < 40; i++) {
            desk.go(i % 4);
        }
        due("ten times round", desk.round(), 800000000000L);
        desk.turn(0, 39);
        due("ten times round, other way", desk.round(), -800000000000L);
        due("a bow", routed(BOW).round(), 0);
        due("three on a line", routed(1, 1, 2, 2, 3, 3).round(), 0);
        due("one step beside the line", routed(1, 1, 2, 2, 3, 4).round(), 1);
        due("one step beside the line, other hand", routed(1, 1, 2, 2, 4, 3).round(), -1);
    }

    // ---- Promise 24

    @Sentence(in = "Promise 24", words = "1 when a place lies within a simple route")
    static void insideOneStepWithin() {
        PointDesk[] both = {routed(SQUARE), turnedRound(SQUARE)};
        int[][] within = {{1, 1}, {9, 1}, {9, 9}, {1, 9}, {5, 1}, {9, 5}, {5, 9}, {1, 5}};
        for (PointDesk desk : both) {
            for (int[] place : within) {
                due("within", desk.inside(place[0], place[1]), 1);
            }
        }
        due("just within at the limits",
                routed(-100000, -100000, 100000, 99999, -100000, 100000).inside(-99999, -99999), 1);
    }

    @Sentence(in = "Promise 24", words = "0 on its sides")
    static void insideOnTheSides() {
        PointDesk desk = routed(0, 0, 10, 0, 10, 10, 5, 5, 0, 10);
        int[][] border = {{0, 0}, {10, 0}, {10, 10}, {5, 5}, {0, 10}, {5, 0}, {10, 5}, {7, 7},
            {3, 7}, {0, 5}};
        for (int[] place : border) {
            due("on a side", desk.inside(place[0], place[1]), 0);
        }
        due("one step above the dent", desk.inside(5, 6), -1);
        due("one step below the dent", desk.inside(5, 4), 1);
    }

    @Sentence(in = "Promise 24", words = "-1 outside")
    static void insideOneStepOutside() {
        PointDesk[] both = {routed(SQUARE), turnedRound(SQUARE)};
        int[][] outside = {{-1, -1}, {11, 0}, {10, 11}, {-1, 10}, {5, -1}, {11, 5}, {5, 11},
            {-1, 5}, {-1, 0}, {11, 10}, {0, -1}, {0, 11}};
        for (PointDesk desk : both) {
            for (int[] place : outside) {
                due("outside", desk.inside(place[0], place[1]), -1);
            }
        }
        due("just outside at the limits",
                routed(-100000, -100000, 100000, 99999, -100000, 100000).inside(99999, 99998), -1);
    }

    @Sentence(in = "Promise 24", words = "-1 outside")
    static void insideAtTheHeightOfPlaces() {
        int[] comb = {0, 0, 10, 0, 10, 6, 8, 2, 6, 6, 4, 2, 2, 6, 0, 2};
        PointDesk[] both = {routed(comb), turnedRound(comb)};
        for (PointDesk desk : both) {
            due("before all, at the height of dents", desk.inside(-1, 2), -1);
            due("within, at the height of dents", desk.inside(1, 2), 1);
            due("between dents", desk.inside(6, 2), 1);
            due("before all, at the height of peaks", desk.inside(-1, 6), -1);
            due("between peaks", desk.inside(4, 6), -1);
            due("before all, at the height of the ground", desk.inside(-1, 0), -1);
            due("behind all, at the height of the ground", desk.inside(11, 0), -1);
        }
        PointDesk straight = routed(0, 0, 4, 0, 4, 4, 4, 8, 0, 8);
        due("within, at the height of a straight place", straight.inside(2, 4), 1);
        due("outside, at the height of a straight place", straight.inside(-2, 4), -1);
    }

    @Sentence(in = "Promise 24", words = "-2 when it is not simple")
    static void insideARouteThatIsNotSimple() {
        due("none", desk(0, 0, 4, 0, 0, 4).inside(1, 1), -2);
        due("one", routed(0, 0).inside(0, 0), -2);
        due("two", routed(0, 0, 4, 4).inside(2, 2), -2);
        due("three", routed(0, 0, 4, 0, 0, 4).inside(1, 1), 1);
        due("on a bow", routed(BOW).inside(2, 2), -2);
        due("outside a bow", routed(BOW).inside(100000, 100000), -2);
        due("three at one place", routed(2, 2, 2, 2, 2, 2).inside(2, 2), -2);
        due("a line", routed(0, 0, 4, 0, 9, 0).inside(4, 0), -2);
    }

    @Sentence(in = "Promise 24", words = "IllegalArgumentException when x or y is too large")
    static void insideThrowsOneStepBeyondEachLimit() {
        dueArgumentBeyondTheLimits("inside", routed(0, 0, 4, 0, 0, 4)::inside);
        dueArgumentBeyondTheLimits("inside a bow", routed(BOW)::inside);
        dueArgumentBeyondTheLimits("inside no route", desk()::inside);
    }

    // ---- Promise 25

    @Sentence(in = "Promise 25", words = "4096 a + 64 p + b, p being the place that is cut off")
    static void trianglesTellPlacesAndNotPoints() {
        PointDesk desk = desk(9, 9, 0, 4, 4, 4, 4, 0, 0, 0);
        go(desk, 4, 3, 2, 1);
        due("triangle(0)", desk.triangle(0), 4096 * 3 + 64 * 0 + 1);
        due("triangle(1)", desk.triangle(1), 4096 * 1 + 64 * 2 + 3);
    }

    @Sentence(in = "Promise 25", words = "(the last three: in their order)")
    static void theLastThreeAreToldInTheirOrder() {
        due("left round", routed(0, 0, 4, 0, 0, 4).triangle(0), triangle(0, 1, 2));
        due("right round", routed(0, 0, 0, 4, 4, 0).triangle(0), triangle(0, 1, 2));
        due("without place 0", routed(0, 0, 4, 0, 4, 4, 0, 4).triangle(1), triangle(1, 2, 3));
        due("without place 1", routed(0, 0, 8, 0, 2, 2, 0, 8).triangle(1), triangle(0, 2, 3));
    }

    @Sentence(in = "Promise 25", words = "NONE when there is none such")
    static void triangleBeforeTheFirstAndBehindTheLast() {
        PointDesk desk = routed(0, 0, 4, 0, 4, 4, 0, 4);
        int[] none = {-1, 2, 38, 40, MAX, MIN};
        for (int i : none) {
            due("triangle(" + i + ")", desk.triangle(i), -1);
        }
        due("triangle(1) of three", routed(0, 0, 4, 0, 0, 4).triangle(1), -1);
        PointDesk full = curveRouted(40);
        due("triangle(37) of 40", full.triangle(37), triangle(37, 38, 39));
        due("triangle(38) of 40", full.triangle(38), -1);
    }

    @Sentence(in = "Promise 25", words = "or the route is not simple")
    static void trianglesOfARouteThatIsNotSimple() {
        dueTriangles("none", desk(0, 0, 4, 0, 0, 4));
        dueTriangles("two", routed(0, 0, 4, 4));
        dueTriangles("a bow", routed(BOW));
        dueTriangles("three at one place", routed(2, 2, 2, 2, 2, 2));
        dueTriangles("a line", routed(0, 0, 4, 0, 9, 0));
        PointDesk desk = routed(0, 0, 4, 0, 4, 4);
        due("simple at first", desk.triangle(0), triangle(0, 1, 2));
        desk.go(1);
        due("not simple behind go", desk.triangle(0), -1);
        desk.stop();
        go(desk, 2, 1, 0);
        due("simple again", desk.triangle(0), triangle(0, 1, 2));
    }
}
