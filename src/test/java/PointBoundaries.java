/** Each sentence about points that names a boundary, on both sides of it. */
public final class PointBoundaries extends Checks {
    public static void main(String[] args) {
        Sentences.runAll(PointBoundaries.class);
    }

    // ---- What it is

    @Sentence(in = "What it is", words = "at most 512 calls after it has been made")
    static void call512OfAFullObjectIsAnswered() {
        PointDesk desk = curve(60);
        int calls = 60;
        for (; calls < 100; calls++) {
            desk.go(calls - 60);
        }
        // An even number of turns leaves the route as it was.
        for (; calls < 510; calls++) {
            desk.turn(0, 39);
        }
        due("call 511, place(0)", desk.place(0), 0);
        due("call 512, triangle(37)", desk.triangle(37), triangle(37, 38, 39));
    }

    @Sentence(in = "What it is", words = "at most 512 calls after it has been made")
    static void call512FindsWhatChangedBeforeIt() {
        PointDesk desk = new PointDesk();
        // Ten calls a turn.
        for (int turn = 1; turn <= 51; turn++) {
            desk.add(0, 0);
            desk.add(turn, 0);
            desk.add(0, 1);
            due("area() in turn " + turn, desk.area(), turn);
            desk.go(0);
            desk.go(1);
            desk.go(2);
            due("round() in turn " + turn, desk.round(), turn);
            due("simple() in turn " + turn, desk.simple(), 1);
            due("clear() in turn " + turn, desk.clear(), 3);
        }
        due("call 511, area()", desk.area(), 0);
        due("call 512, simple()", desk.simple(), 0);
    }

    @Sentence(in = "What it is", words = "at most 512 calls after it has been made")
    static void call512OfRefusedOnesIsRefusedAsTheFirst() {
        PointDesk desk = curve(60);
        for (int calls = 60; calls < 511; calls++) {
            due("call " + (calls + 1) + ", add(1, 2)", desk.add(1, 2), -1);
        }
        due("call 512, count(0)", desk.count(0), 60);
    }

    // ---- Terms

    @Sentence(in = "Terms", words = "two whole numbers, x and y, from -100000 to 100000")
    static void xAndYReachToBothLimits() {
        PointDesk desk = new PointDesk();
        int[][] within = {{-100000, 1}, {100000, 2}, {3, -100000}, {4, 100000},
            {-100000, -100000}, {100000, 100000}, {-100000, 100000}, {100000, -100000}};
        for (int i = 0; i < within.length; i++) {
            due("add at a limit", desk.add(within[i][0], within[i][1]), i);
            due("its x", desk.at(i, 0), within[i][0]);
            due("its y", desk.at(i, 1), within[i][1]);
        }
    }

    @Sentence(in = "Terms", words = "are numbered from 0")
    static void theFirstPointIs0() {
        PointDesk desk = new PointDesk();
        due("the first", desk.add(7, 7), 0);
        due("the second", desk.add(8, 8), 1);
        due("corner(0)", desk.corner(0), 0);
        due("nearest(8, 8)", desk.nearest(8, 8), 1);
    }

    @Sentence(in = "Terms", words = "there are at most 60")
    static void sixtyPointsCanBeUsed() {
        PointDesk desk = curve(60);
        due("count(0)", desk.count(0), 60);
        due("at(59, 1)", desk.at(59, 1), 59 * 59);
        due("corner(59)", desk.corner(59), 59);
        due("layer(59)", desk.layer(59), 0);
        due("go(59)", desk.go(59), 1);
        due("pair(0)", desk.pair(0), 59);
        due("distance(59, 0)", desk.distance(59, 0), 59L * 59 + 59L * 59 * 59 * 59);
        due("beside(58, 59, 1)", desk.beside(58, 59, 1), 58);
    }

    @Sentence(in = "Terms", words = "there are at most 60")
    static void askedPlacesDoNotTakeThePlaceOfPoint59() {
        PointDesk desk = curve(60);
        due("where(3, 9)", desk.where(3, 9), 0);
        due("nearest(3, 9)", desk.nearest(3, 9), 3);
        go(desk, 0, 30, 59);
        due("inside(3, 9)", desk.inside(3, 9), -1);
        due("at(59, 0)", desk.at(59, 0), 59);
        due("at(59, 1)", desk.at(59, 1), 59 * 59);
        due("count(0)", desk.count(0), 60);
        due("count(4)", desk.count(4), 0);
    }

    @Sentence(in = "Terms", words = "Some may be at one place.")
    static void severalPointsAtOnePlaceAreSeveralPoints() {
        PointDesk desk = new PointDesk();
        due("the first", desk.add(3, 4), 0);
        due("one more there", desk.add(3, 4), 1);
        due("one more there", desk.add(3, 4), 2);
        due("count(0)", desk.count(0), 3);
        due("at(2, 0)", desk.at(2, 0), 3);
        due("at(2, 1)", desk.at(2, 1), 4);
        due("clear()", desk.clear(), 3);
    }

    @Sentence(in = "Terms", words = "above 0 if p lies on the left of the way from a to b")
    static void oneIsLeftAndMinusOneIsRightHoweverFarTheyLie() {
        // The products are 200000 times 199998 and 199999 times 199999: they differ by 1.
        PointDesk desk = desk(-100000, -100000, 100000, 99999, -99999, -99999, 99999, 99998);
        due("left", desk.beside(0, 1, 1), 1);
        due("right", desk.beside(0, 1, -1), 1);
        due("on it", desk.beside(0, 1, 0), 2);
        due("left, other way", desk.beside(1, 0, 1), 1);
        PointDesk ends = desk(-100000, -100000, 100000, -100000, 100000, 100000, -100000, 100000);
        due("far on the left", ends.beside(0, 1, 1), 2);
        due("far on the right", ends.beside(1, 0, -1), 2);
        due("two on the line", ends.beside(0, 1, 0), 2);
    }

    @Sentence(in = "Terms", words = "d(a,b) is the square of the distance")
    static void theSquareOfTheLeastAndOfTheGreatestDistance() {
        PointDesk desk = desk(-100000, -100000, 100000, 100000, -100000, -99999, 0, 0);
        due("one step", desk.distance(0, 2), 1);
        due("from limit to limit", desk.distance(0, 1), 80000000000L);
        due("one step less", desk.distance(1, 2), 40000000000L + 199999L * 199999);
        due("from the middle", desk.distance(1, 3), 20000000000L);
    }

    @Sentence(in = "Terms", words = "`NONE = -1`: There is none.")
    static void noneIsMinusOne() {
        due("NONE", PointDesk.NONE, -1);
    }

    // ---- Promise 1

    @Sentence(in = "Promise 1", words = "No points")
    static void aNewObjectHasNoPoints() {
        PointDesk desk = new PointDesk();
        for (int what = 0; what <= 5; what++) {
            due("count(" + what + ")", desk.count(what), 0);
        }
        dueIndex("at(0, 0)", () -> desk.at(0, 0));
        due("layer(0)", desk.layer(0), -1);
        due("go(0)", desk.go(0), -1);
        due("clear()", desk.clear(), 0);
    }

    @Sentence(in = "Promise 1", words = "an empty route")
    static void aNewObjectHasAnEmptyRoute() {
        PointDesk desk = new PointDesk();
        due("count(3)", desk.count(3), 0);
        due("place(0)", desk.place(0), -1);
        due("stop()", desk.stop(), 0);
        dueTurnThrows(desk, 0, 0);
    }

    @Sentence(in = "Promise 1", words = "A new object")
    static void objectsHaveNothingInCommon() {
        PointDesk used = routed(0, 0, 9, 0, 0, 9);
        PointDesk fresh = new PointDesk();
        due("count(0) of the new one", fresh.count(0), 0);
        due("count(3) of the new one", fresh.count(3), 0);
        fresh.add(1, 1);
        fresh.clear();
        due("count(0) of the used one", used.count(0), 3);
        due("round() of the used one", used.round(), 81);
    }

    // ---- Promise 2

    @Sentence(in = "Promise 2", words = "One more point: its number.")
    static void addTellsTheNumberFrom0To59() {
        PointDesk desk = new PointDesk();
        for (int i = 0; i < 60; i++) {
            due("add number " + i, desk.add(-i, i), i);
            due("count(0)", desk.count(0), i + 1);
        }
    }

    @Sentence(in = "Promise 2", words = "NONE, and nothing is done, when x or y is too large")
    static void addRefusesOneStepBeyondEachLimit() {
        PointDesk desk = new PointDesk();
        int[] beyond = {100001, -100001, MAX, MIN};
        for (int n : beyond) {
            due("add(" + n + ", 0)", desk.add(n, 0), -1);
            due("add(0, " + n + ")", desk.add(0, n), -1);
            due("add(" + n + ", " + n + ")", desk.add(n, n), -1);
        }
        due("count(0)", desk.count(0), 0);
        due("the next one", desk.add(100000, -100000), 0);
    }

    @Sentence(in = "Promise 2", words = "or there are 60")
    static void addRefusesPoint60AndNotPoint59() {
        PointDesk desk = curve(59);
        due("with 59", desk.add(59, 0), 59);
        due("with 60", desk.add(60, 0), -1);
        due("count(0)", desk.count(0), 60);
        due("with 60, and too large", desk.add(100001, 0), -1);
        desk.clear();
        due("when they are gone", desk.add(60, 0), 0);
    }

    // ---- Promise 3

    @Sentence(in = "Promise 3", words = "No points")
    static void clearTakesAllPointsAway() {
        PointDesk desk = desk(0, 0, 9, 0, 0, 9, 3, 3);
        due("area() before", desk.area(), 81);
        due("layer(3) before", desk.layer(3), 1);
        desk.clear();
        for (int what = 0; what <= 5; what++) {
            due("count(" + what + ")", desk.count(what), 0);
        }
        due("corner(0)", desk.corner(0), -1);
        due("area()", desk.area(), 0);
        due("layer(3)", desk.layer(3), -1);
        due("where(3, 3)", desk.where(3, 3), -1);
        due("nearest(3, 3)", desk.nearest(3, 3), -1);
        due("pair(0)", desk.pair(0), -1);
        due("best(0)", desk.best(0), -1);
        dueIndex("at(0, 0)", () -> desk.at(0, 0));
        dueIndex("side(0, 0)", () -> desk.side(0, 0));
    }

    @Sentence(in = "Promise 3", words = "an empty route")
    static void clearEmptiesTheRoute() {
        PointDesk desk = routed(0, 0, 9, 0, 0, 9, 9, 9);
        due("crossings() before", desk.crossings(), 1);
        desk.clear();
        due("count(3)", desk.count(3), 0);
        due("place(0)", desk.place(0), -1);
        due("crossings()", desk.crossings(), 0);
        due("round()", desk.round(), 0);
        due("stop()", desk.stop(), 0);
        dueTurnThrows(desk, 0, 0);
        desk.add(0, 0);
        due("the first place anew", desk.go(0), 1);
    }

    @Sentence(in = "Promise 3", words = "No points, an empty route")
    static void whatIsAddedBehindClearIsAllThereIs() {
        PointDesk desk = routed(0, 0, 9, 0, 9, 9, 0, 9);
        due("area() before", desk.area(), 162);
        due("triangle(0) before", desk.triangle(0), triangle(3, 0, 1));
        desk.clear();
        desk.add(1, 1);
        desk.add(3, 1);
        desk.add(1, 3);
        go(desk, 0, 2, 1);
        dueCorners("anew", desk, 0, 1, 2);
        due("area()", desk.area(), 4);
        due("round()", desk.round(), -4);
        dueTriangles("anew", desk, 0, 1, 2);
    }

    @Sentence(in = "Promise 3", words = "how many points there were")
    static void clearTellsFrom0To60() {
        int[] counts = {0, 1, 59, 60};
        for (int count : counts) {
            PointDesk desk = atOnePlace(count);
            due("clear() of " + count, desk.clear(), count);
            due("clear() again", desk.clear(), 0);
        }
        PointDesk routed = toAndFro(40);
        due("points are told, not places", routed.clear(), 2);
    }

    // ---- Promise 4

    @Sentence(in = "Promise 4", words = "How many points (what 0)")
    static void countOfPoints() {
        int[] counts = {0, 1, 59, 60};
        for (int count : counts) {
            due("of " + count, atOnePlace(count).count(0), count);
        }
        PointDesk full = atOnePlace(60);
        full.add(0, 0);
        due("of 60 and one refused", full.count(0), 60);
    }

    @Sentence(in = "Promise 4", words = "corners (1)")
    static void countOfCorners() {
        due("none", desk().count(1), 0);
        due("one", desk(4, 4).count(1), 1);
        due("two", desk(4, 4, 5, 5).count(1), 2);
        due("three on a line", desk(4, 4, 5, 5, 6, 6).count(1), 2);
        due("three", desk(4, 4, 5, 5, 6, 7).count(1), 3);
        due("60", curve(60).count(1), 60);
    }

    @Sentence(in = "Promise 4", words = "layers (2)")
    static void countOfLayers() {
        due("none", desk().count(2), 0);
        due("one", desk(4, 4).count(2), 1);
        due("three", desk(0, 0, 9, 0, 0, 9).count(2), 1);
        due("one within", desk(0, 0, 9, 0, 0, 9, 1, 1).count(2), 2);
        due("60 corners", curve(60).count(2), 1);
    }

    @Sentence(in = "Promise 4", words = "places of the route (3)")
    static void countOfPlaces() {
        int[] counts = {0, 1, 39, 40};
        for (int count : counts) {
            due("of " + count, toAndFro(count).count(3), count);
        }
        due("of 41", toAndFro(41).count(3), 40);
    }

    @Sentence(in = "Promise 4", words = "pairs of points at one place (4)")
    static void countOfPairsAtOnePlace() {
        due("none", desk().count(4), 0);
        due("one point", desk(1, 1).count(4), 0);
        due("two", desk(1, 1, 1, 1).count(4), 1);
        due("one step apart in x", desk(1, 1, 2, 1).count(4), 0);
        due("one step apart in y", desk(1, 1, 1, 2).count(4), 0);
        due("three", desk(1, 1, 1, 1, 1, 1).count(4), 3);
        due("two and two", desk(1, 1, 2, 2, 1, 1, 2, 2).count(4), 2);
        due("60", atOnePlace(60).count(4), 1770);
    }

    @Sentence(in = "Promise 4", words = "sets of three points on one line")
    static void countOfThreesOnOneLine() {
        due("two points", desk(1, 1, 2, 2).count(5), 0);
        due("three", desk(1, 1, 2, 2, 3, 3).count(5), 1);
        due("one step beside", desk(1, 1, 2, 2, 3, 4).count(5), 0);
        due("four", desk(1, 1, 2, 2, 3, 3, 5, 5).count(5), 4);
        due("at the limits", desk(-100000, -100000, 0, 0, 100000, 100000).count(5), 1);
        due("a step beside at the limits",
                desk(-100000, -100000, 100000, 99999, 99999, 99998).count(5), 0);
    }

    @Sentence(in = "Promise 4", words = "points at one place, too")
    static void threesWithPointsAtOnePlaceAreOnOneLine() {
        due("two at one place alone", desk(1, 1, 1, 1).count(5), 0);
        due("two at one place and another", desk(1, 1, 1, 1, 7, 3).count(5), 1);
        due("three at one place", desk(1, 1, 1, 1, 1, 1).count(5), 1);
        due("60 at one place", atOnePlace(60).count(5), 34220);
    }

    @Sentence(in = "Promise 4", words = "NONE for others.")
    static void countOfOthers() {
        PointDesk desk = routed(0, 0, 9, 0, 0, 9);
        int[] others = {-1, 6, MAX, MIN};
        for (int what : others) {
            due("count(" + what + ")", desk.count(what), -1);
            due("count(" + what + ") of nothing", desk().count(what), -1);
        }
    }

    // ---- Promise 5

    @Sentence(in = "Promise 5", words = "x (what 0), y (1) of a point.")
    static void atTellsXAndY() {
        PointDesk desk = desk(-100000, 100000, 3, 4, 5, 6);
        due("at(0, 0)", desk.at(0, 0), -100000);
        due("at(0, 1)", desk.at(0, 1), 100000);
        due("at(2, 0)", desk.at(2, 0), 5);
        due("at(2, 1)", desk.at(2, 1), 6);
    }

    @Sentence(in = "Promise 5", words = "IndexOutOfBoundsException when there is no such point")
    static void atThrowsBeforeTheFirstAndBehindTheLastPoint() {
        PointDesk desk = desk(1, 2, 3, 4);
        int[] none = {-1, 2, 60, MAX, MIN};
        for (int point : none) {
            dueIndex("at(" + point + ", 0)", () -> desk.at(point, 0));
            dueIndex("at(" + point + ", 1)", () -> desk.at(point, 1));
        }
        dueIndex("at(0, 0) without points", () -> desk().at(0, 0));
        PointDesk full = curve(60);
        dueIndex("at(60, 0) with 60", () -> full.at(60, 0));
        full.clear();
        dueIndex("at(0, 0) behind clear", () -> full.at(0, 0));
    }

    @Sentence(in = "Promise 5", words = "IllegalArgumentException when there is no such what")
    static void atThrowsForOtherWhats() {
        PointDesk desk = desk(1, 2, 3, 4);
        int[] others = {-1, 2, MAX, MIN};
        for (int what : others) {
            dueArgument("at(0, " + what + ")", () -> desk.at(0, what));
            dueArgument("at(1, " + what + ")", () -> desk.at(1, what));
        }
    }

    @Sentence(in = "Promise 5", words = "IndexOutOfBoundsException when there is no such point")
    static void atWithNeitherPointNorWhatThrowsForThePoint() {
        PointDesk desk = desk(1, 2, 3, 4);
        dueIndex("at(2, 2)", () -> desk.at(2, 2));
        dueIndex("at(-1, -1)", () -> desk.at(-1, -1));
        dueIndex("at(0, 2) without points", () -> desk().at(0, 2));
    }

    // ---- Promise 9

    @Sentence(in = "Promise 9", words = "farthest from each other (way 0), or nearest (1)")
    static void pairsThatDifferByOneStep() {
        PointDesk desk = desk(0, 0, 10, 0, 0, 11, 3, 0, 0, 2);
        due("farthest", desk.pair(0), 64 * 1 + 2);
        due("nearest", desk.pair(1), 64 * 0 + 4);
        PointDesk far = desk(-100000, -100000, 100000, 99999, 100000, 100000);
        due("farthest at the limits", far.pair(0), 64 * 0 + 2);
        due("nearest at the limits", far.pair(1), 64 * 1 + 2);
        // The square of 65536 is 0 for those who count with an int.
        PointDesk round = desk(0, 0, 65536, 0, 1, 1);
        due("farthest across 65536", round.pair(0), 64 * 0 + 1);
        due("nearest across 65536", round.pair(1), 64 * 0 + 2);
    }

    @Sentence(in = "Promise 9", words = "Of two different points i and k, i below k")
    static void aPairIsNeverOnePointTwice() {
        due("two at one place, nearest", desk(5, 5, 5, 5).pair(1), 1);
        due("two at one place, farthest", desk(5, 5, 5, 5).pair(0), 1);
        due("the last two of 60", lastTwoOf60().pair(1), 64 * 58 + 59);
        due("the first and the last of 60", lastTwoOf60().pair(0), 59);
    }

    private static PointDesk lastTwoOf60() {
        PointDesk desk = new PointDesk();
        for (int i = 0; i < 59; i++) {
            desk.add(10 * i, 0);
        }
        desk.add(10 * 58 + 1, 0);
        return desk;
    }

    @Sentence(in = "Promise 9", words = "of several the least i")
    static void ofPairsAsFarTheLeastI() {
        PointDesk far = desk(5, 5, 0, 0, 10, 0, 10, 10, 0, 10);
        due("two as far: 1 and 3, 2 and 4", far.pair(0), 64 * 1 + 3);
        PointDesk near = desk(0, 0, 100, 0, 200, 0, 201, 0, 101, 0);
        due("two as near: 1 and 4, 2 and 3", near.pair(1), 64 * 1 + 4);
    }

    @Sentence(in = "Promise 9", words = "then the least k")
    static void ofPairsAsFarWithOneITheLeastK() {
        due("as far from 0", desk(0, 0, 1, 1, 3, 4, 4, 3, 5, 0).pair(0), 2);
        due("as near to 0", desk(0, 0, 9, 9, 0, 2, 2, 0, 0, -2).pair(1), 2);
        due("all at one place", atOnePlace(60).pair(1), 1);
    }

    @Sentence(in = "Promise 9", words = "NONE when there are less than two")
    static void pairOfLessThanTwoPoints() {
        for (int way = 0; way <= 1; way++) {
            due("none", desk().pair(way), -1);
            due("one", desk(3, 3).pair(way), -1);
            due("two", desk(3, 3, 8, 8).pair(way), 1);
        }
    }

    @Sentence(in = "Promise 9", words = "or no such way")
    static void pairOfOtherWays() {
        int[] others = {-1, 2, MAX, MIN};
        for (int way : others) {
            due("pair(" + way + ")", desk(3, 3, 8, 8, 0, 0).pair(way), -1);
        }
    }

    // ---- Promise 10

    @Sentence(in = "Promise 10", words = "d of two points.")
    static void distanceOfOnePointAndAtOnePlace() {
        PointDesk desk = desk(3, 3, 3, 3, -2, 4);
        due("to itself", desk.distance(2, 2), 0);
        due("at one place", desk.distance(0, 1), 0);
        due("there", desk.distance(0, 2), 26);
        due("and back", desk.distance(2, 0), 26);
    }

    @Sentence(in = "Promise 10", words = "IndexOutOfBoundsException when there is no such point")
    static void distanceThrowsForEitherPoint() {
        PointDesk desk = desk(3, 3, 8, 8);
        int[] none = {-1, 2, 60, MAX, MIN};
        for (int point : none) {
            dueIndex("distance(1, " + point + ")", () -> desk.distance(1, point));
            dueIndex("distance(" + point + ", 1)", () -> desk.distance(point, 1));
            dueIndex("distance of " + point + " twice", () -> desk.distance(point, point));
        }
        dueIndex("distance(0, 0) without points", () -> desk().distance(0, 0));
        PointDesk full = curve(60);
        dueIndex("distance(60, 0) with 60", () -> full.distance(60, 0));
        dueIndex("distance(0, 60) with 60", () -> full.distance(0, 60));
    }

    // ---- Promise 14

    @Sentence(in = "Promise 14", words = "The point that is nearest to a place")
    static void nearestOnEachSideOfTheMiddle() {
        PointDesk desk = desk(10, 0, 0, 0);
        due("one step to the left of the middle", desk.nearest(4, 0), 1);
        due("one step to the right of the middle", desk.nearest(6, 0), 0);
        PointDesk far = desk(-100000, -100000, 100000, 100000);
        due("one step to the first", far.nearest(0, -1), 0);
        due("one step to the second", far.nearest(0, 1), 1);
        due("from limit to limit", desk(-100000, -100000).nearest(100000, 100000), 0);
    }

    @Sentence(in = "Promise 14", words = "of several the least one")
    static void nearestOfSeveral() {
        PointDesk desk = desk(50, 50, 10, 0, 0, 0, 10, 0);
        due("in the middle", desk.nearest(5, 0), 1);
        due("at one place", desk.nearest(10, 0), 1);
        due("60 at one place", atOnePlace(60).nearest(0, 0), 0);
    }

    @Sentence(in = "Promise 14", words = "NONE without points")
    static void nearestWithoutPoints() {
        PointDesk desk = desk();
        due("none", desk.nearest(0, 0), -1);
        desk.add(9, 9);
        due("one", desk.nearest(0, 0), 0);
        desk.clear();
        due("behind clear", desk.nearest(9, 9), -1);
    }

    @Sentence(in = "Promise 14", words = "IllegalArgumentException when x or y is too large")
    static void nearestThrowsOneStepBeyondEachLimit() {
        PointDesk desk = desk(1, 1, 2, 2);
        dueArgumentBeyondTheLimits("nearest", desk::nearest);
        dueArgumentBeyondTheLimits("nearest without points", desk()::nearest);
    }

    // ---- Promise 15

    @Sentence(in = "Promise 15", words = "on the left (way 1) of the way from point i to point k")
    static void besideOnTheLeft() {
        PointDesk desk = desk(0, 0, 4, 0, 2, 1, 2, 0, 2, -1, -9, 1, 13, 1);
        due("left", desk.beside(0, 1, 1), 3);
        due("left, other way", desk.beside(1, 0, 1), 1);
    }

    @Sentence(in = "Promise 15", words = "on the right (-1)")
    static void besideOnTheRight() {
        PointDesk desk = desk(0, 0, 4, 0, 2, 1, 2, 0, 2, -1, -9, 1, 13, 1);
        due("right", desk.beside(0, 1, -1), 1);
        due("right, other way", desk.beside(1, 0, -1), 3);
    }

    @Sentence(in = "Promise 15", words = "or on its line (0)")
    static void besideOnTheLine() {
        due("both ends alone", desk(0, 0, 4, 0).beside(0, 1, 0), 2);
        PointDesk desk = desk(0, 0, 4, 0, 2, 0, -5, 0, 9, 0, 4, 0, 2, 1);
        due("before, between, behind and at an end", desk.beside(0, 1, 0), 6);
        due("other way", desk.beside(1, 0, 0), 6);
        due("nothing on the left", desk(0, 0, 4, 0).beside(0, 1, 1), 0);
        due("nothing on the right", desk(0, 0, 4, 0).beside(0, 1, -1), 0);
    }

    @Sentence(in = "Promise 15", words = "NONE when both are at one place")
    static void besideWithBothAtOnePlace() {
        PointDesk desk = desk(3, 3, 3, 3, 3, 4, 4, 3);
        for (int way = -1; way <= 1; way++) {
            due("two at one place", desk.beside(0, 1, way), -1);
            due("one point twice", desk.beside(2, 2, way), -1);
        }
        due("one step apart in y", desk.beside(0, 2, 0), 3);
        due("one step apart in x", desk.beside(0, 3, 0), 3);
    }

    @Sentence(in = "Promise 15", words = "or there is no such way")
    static void besideOfOtherWays() {
        PointDesk desk = desk(0, 0, 4, 0, 2, 1);
        int[] others = {-2, 2, MAX, MIN};
        for (int way : others) {
            due("beside(0, 1, " + way + ")", desk.beside(0, 1, way), -1);
        }
    }

    @Sentence(in = "Promise 15", words = "IndexOutOfBoundsException when there is no such point")
    static void besideThrowsForEitherPoint() {
        PointDesk desk = desk(3, 3, 8, 8);
        int[] none = {-1, 2, 60, MAX, MIN};
        for (int point : none) {
            dueIndex("beside(1, " + point + ", 0)", () -> desk.beside(1, point, 0));
            dueIndex("beside(" + point + ", 1, 0)", () -> desk.beside(point, 1, 0));
            dueIndex("beside of one twice", () -> desk.beside(point, point, 1));
            dueIndex("beside of another way", () -> desk.beside(1, point, 2));
        }
        dueIndex("beside(0, 0, 0) without points", () -> desk().beside(0, 0, 0));
    }
}
