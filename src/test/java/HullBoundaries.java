/** Each sentence about the hull, its sides and the layers that names a boundary. */
public final class HullBoundaries extends Checks {
    public static void main(String[] args) {
        Sentences.runAll(HullBoundaries.class);
    }

    // ---- Terms: the hull

    @Sentence(in = "Terms", words = "the places of points that are not between others of it")
    static void aPointOnASideIsNoCornerAndOneStepOutsideItIs() {
        dueCorners("on a side", desk(0, 0, 8, 0, 8, 8, 0, 8, 4, 0), 0, 1, 2, 3);
        dueCorners("one step outside", desk(0, 0, 8, 0, 8, 8, 0, 8, 4, -1), 4, 1, 2, 3, 0);
        dueCorners("one step within", desk(0, 0, 8, 0, 8, 8, 0, 8, 4, 1), 0, 1, 2, 3);
        dueCorners("on the last side", desk(0, 0, 8, 0, 8, 8, 0, 8, 0, 4), 0, 1, 2, 3);
        dueCorners("outside the last side", desk(0, 0, 8, 0, 8, 8, 0, 8, -1, 4), 0, 1, 2, 3, 4);
    }

    @Sentence(in = "Terms", words = "the places of points that are not between others of it")
    static void betweenIsExactAtTheLimits() {
        int[] far = {-100000, -100000, 100000, 99999, -100000, 100000};
        PointDesk within = desk(far);
        within.add(-99999, -99999);
        dueCorners("just within", within, 0, 1, 2);
        PointDesk outside = desk(far);
        outside.add(99999, 99998);
        dueCorners("just outside", outside, 0, 3, 1, 2);
        dueCorners("just between", desk(-100000, -100000, 100000, 100000, -100000, 100000, 0, 0),
                0, 1, 2);
    }

    @Sentence(in = "Terms", words = "of several at one place the least one")
    static void ofSeveralPointsAtACornerTheLeastIsTold() {
        dueCorners("at every corner", desk(6, 0, 6, 0, 0, 0, 0, 0, 3, 6, 3, 6), 2, 0, 4);
        dueCorners("mixed", desk(0, 0, 9, 0, 0, 9, 9, 0, 0, 9, 0, 0), 0, 1, 2);
        dueCorners("on one line", desk(5, 5, 5, 5, 0, 0, 0, 0), 2, 0);
        dueCorners("one step apart", desk(1, 0, 0, 0, 0, 0, 5, 5), 1, 0, 3);
    }

    @Sentence(in = "Terms", words = "from the one with the least y")
    static void cornersStartAtTheLeastY() {
        dueCorners("least y, not least x", desk(0, 5, 3, 1, 8, 7), 1, 2, 0);
        dueCorners("one step lower", desk(0, 1, 9, 0, 9, 9), 1, 2, 0);
        dueCorners("one step higher", desk(0, 0, 9, 1, 9, 9), 0, 1, 2);
    }

    @Sentence(in = "Terms", words = "(of several such the one with the least x)")
    static void cornersStartAtTheLeastXOfTheLowest() {
        dueCorners("two lowest ones", desk(8, 0, 2, 0, 5, 9), 1, 0, 2);
        dueCorners("three lowest ones", desk(5, 0, 8, 0, 2, 0, 5, 9), 2, 1, 3);
        dueCorners("the left one is one step higher", desk(8, 0, 2, 1, 5, 9), 0, 2, 1);
    }

    @Sentence(in = "Terms", words = "so that the hull lies on the left")
    static void cornersGoRoundWithTheHullOnTheLeft() {
        dueCorners("added the other way round", desk(0, 0, 0, 9, 9, 0), 0, 2, 1);
        dueCorners("added this way round", desk(0, 0, 9, 0, 0, 9), 0, 1, 2);
        dueCorners("four, added crosswise", desk(0, 0, 9, 9, 9, 0, 0, 9), 0, 2, 1, 3);
    }

    @Sentence(in = "Terms", words = "(All points on one line make two corners")
    static void pointsOnOneLineMakeTwoCorners() {
        dueCorners("two", desk(5, 5, 2, 2), 1, 0);
        dueCorners("a flat line", desk(5, 1, 0, 1, 9, 1, 3, 1), 1, 2);
        dueCorners("an upright line", desk(5, 1, 5, 8, 5, -3), 2, 1);
        dueCorners("a falling line", desk(0, 9, 9, 0, 3, 6), 1, 0);
        dueCorners("one step beside the line", desk(0, 0, 2, 2, 4, 5, 6, 6), 0, 3, 2);
        PointDesk full = new PointDesk();
        for (int i = 0; i < 60; i++) {
            full.add(i * 7 % 60, 0);
        }
        due("count(1) of 60", full.count(1), 2);
        due("corner(0) of 60", full.corner(0), 0);
        due("at(corner(1), 0) of 60", full.at(full.corner(1), 0), 59);
    }

    @Sentence(in = "Terms", words = "all at one place one.)")
    static void pointsAtOnePlaceMakeOneCorner() {
        dueCorners("none", desk());
        dueCorners("one", desk(5, 5), 0);
        dueCorners("60", atOnePlace(60), 0);
        PointDesk almost = atOnePlace(59);
        almost.add(5, 6);
        dueCorners("59 and one a step away", almost, 0, 59);
    }

    // ---- Terms: sides

    @Sentence(in = "Terms", words = "With three corners or more SIDE i goes from corner i")
    static void sidesComeWithTheThirdCorner() {
        PointDesk desk = desk(0, 0, 3, 0);
        dueIndex("side(0, 1) of two corners", () -> desk.side(0, 1));
        desk.add(9, 0);
        dueIndex("side(0, 1) of three on a line", () -> desk.side(0, 1));
        desk.add(0, 4);
        due("side(0, 1) of three corners", desk.side(0, 1), 81);
        due("side(1, 1) of three corners", desk.side(1, 1), 97);
    }

    @Sentence(in = "Terms", words = "(from the last one to corner 0)")
    static void theLastSideGoesBackToCorner0() {
        PointDesk desk = desk(0, 0, 3, 0, 0, 4);
        due("length", desk.side(2, 1), 16);
        due("height", desk.side(2, 0), 12);
        due("span", desk.side(2, 2), 16);
        due("the last of 60", curve(60).side(59, 1), 59L * 59 + 59L * 59 * 59 * 59);
        due("the last one is the thinnest", desk(0, 0, 1, 0, 9, 9).best(0), 2);
        due("the last one has the box", desk(0, 0, 1, 0, 9, 9).best(1), 2);
    }

    @Sentence(in = "Terms", words = "Its HEIGHT is the greatest c(a,b,p) for all corners p")
    static void heightAtTheFirstAMiddleAndTheLastCorner() {
        PointDesk desk = desk(0, 0, 6, 0, 9, 3, 2, 5);
        due("at the last corner", desk.side(0, 0), 30);
        due("at the last corner, not at the first", desk.side(1, 0), 27);
        due("at the first corner", desk.side(2, 0), 39);
        due("at a middle corner", desk.side(3, 0), 39);
        due("as flat as can be", desk(-100000, -100000, 100000, 99999, -99999, -99999).side(0, 0),
                1);
        due("as high as can be",
                desk(-100000, -100000, 100000, -100000, 0, 100000).side(0, 0), 40000000000L);
    }

    @Sentence(in = "Terms", words = "its LENGTH is d(a,b)")
    static void lengthOfTheShortestAndTheLongestSide() {
        PointDesk desk = desk(-100000, -100000, 100000, 100000, 99999, 100000);
        due("longest", desk.side(0, 1), 80000000000L);
        due("shortest", desk.side(1, 1), 1);
    }

    @Sentence(in = "Terms", words = "for all corners p, the greatest less the least")
    static void spanBehindOneEndOrBothOrNone() {
        due("within the side", desk(0, 0, 8, 0, 4, 4).side(0, 2), 64);
        due("just at its ends", desk(0, 0, 8, 0, 8, 4, 0, 4).side(0, 2), 64);
        due("behind b by one step", desk(0, 0, 8, 0, 9, 4, 0, 4).side(0, 2), 72);
        due("before a by one step", desk(0, 0, 8, 0, 8, 4, -1, 4).side(0, 2), 72);
        due("beyond both", desk(0, 0, 8, 0, 9, 4, -1, 4).side(0, 2), 80);
        due("as wide as can be",
                desk(-100000, -100000, 100000, 100000, -100000, 100000).side(0, 2), 80000000000L);
    }

    @Sentence(in = "Terms", words = "THE THINNEST side is the first one for which")
    static void theThinnestOfSeveralIsTheFirst() {
        due("a square", desk(0, 0, 4, 0, 4, 4, 0, 4).best(0), 0);
        due("one step wider", desk(0, 0, 5, 0, 5, 4, 0, 4).best(0), 0);
        due("one step higher: sides 1 and 3", desk(0, 0, 4, 0, 4, 5, 0, 5).best(0), 1);
        due("the last one alone", desk(0, 0, 1, 0, 9, 9).best(0), 2);
    }

    @Sentence(in = "Terms", words = "height times height, divided by length, is least")
    static void theThinnestIsNotTheLowestNorTheLongest() {
        // Heights 10 10 6 6, lengths 8 13 4 5, spans 8 13 8 9.
        due("thinnest", desk(1, 0, 3, 2, 0, 4, 0, 2).best(0), 3);
    }

    @Sentence(in = "Terms", words = "height times height, divided by length, is least")
    static void theThinnestIsExactAtTheLimits() {
        due("sides 1 and 2 alike",
                desk(-100000, -100000, 100000, -100000, 0, 100000).best(0), 1);
        due("side 1 longer",
                desk(-100000, -100000, 100000, -100000, -1, 100000).best(0), 1);
        due("side 2 longer",
                desk(-100000, -100000, 100000, -100000, 1, 100000).best(0), 2);
        // Two parallel sides, one three times the other, that doubles would tell apart.
        due("sides 0 and 2 alike",
                desk(-41053, -9698, 55682, 28198, 39593, 84397, 7348, 71765).best(0), 0);
        due("sides 1 and 3 alike",
                desk(-72677, -89683, -60665, -78306, 55972, 78213, -33798, -37510).best(0), 1);
    }

    @Sentence(in = "Terms", words = "THE BOX is of the first one for which")
    static void theBoxOfSeveralIsTheFirst() {
        due("a square", desk(0, 0, 4, 0, 4, 4, 0, 4).best(1), 0);
        due("all alike in a flat one", desk(0, 0, 5, 0, 5, 4, 0, 4).best(1), 0);
        due("all alike in a high one", desk(0, 0, 4, 0, 4, 5, 0, 5).best(1), 0);
        due("sides 1 and 3", desk(0, 0, 1, 0, 9, 4, 8, 4).best(1), 1);
    }

    @Sentence(in = "Terms", words = "height times span, divided by length, is least")
    static void theBoxIsNotOfTheLowestNorOfTheNarrowest() {
        // Heights 23 23 18 16, lengths 26 25 13 10, spans 28 26 17 15.
        due("box", desk(1, 0, 6, 1, 3, 5, 0, 3).best(1), 2);
    }

    @Sentence(in = "Terms", words = "height times span, divided by length, is least")
    static void theBoxIsExactAtTheLimits() {
        // With a right or sharper angle at both ends of side 0 all three boxes are alike.
        due("a right angle at corner 0", desk(0, 0, 4, 0, 0, 3).best(1), 0);
        due("one step more", desk(0, 0, 4, 0, -1, 3).best(1), 1);
        due("a right angle at corner 1", desk(0, 0, 4, 0, 4, 3).best(1), 0);
        due("one step more there", desk(0, 0, 4, 0, 5, 3).best(1), 2);
        due("a right angle at the limits",
                desk(-100000, -100000, 100000, -100000, -100000, 100000).best(1), 0);
        due("one step more at the limits",
                desk(-99999, -100000, 100000, -100000, -100000, 100000).best(1), 1);
        due("sides 0 and 2 alike",
                desk(-41053, -9698, 55682, 28198, 39593, 84397, 7348, 71765).best(1), 0);
        due("sides 1 and 3 alike",
                desk(-72677, -89683, -60665, -78306, 55972, 78213, -33798, -37510).best(1), 1);
    }

    // ---- Terms: layers

    @Sentence(in = "Terms", words = "layer 0 are all points that lie on the border of the hull")
    static void pointsOnTheBorderAreLayer0AndOneStepWithinLayer1() {
        dueLayers("on a side", desk(0, 0, 8, 0, 8, 8, 0, 8, 4, 0), 1, 0, 0, 0, 0, 0);
        dueLayers("one step within", desk(0, 0, 8, 0, 8, 8, 0, 8, 4, 1), 2, 0, 0, 0, 0, 1);
        dueLayers("on the last side", desk(0, 0, 8, 0, 8, 8, 0, 8, 0, 4), 1, 0, 0, 0, 0, 0);
        dueLayers("several at a corner", desk(0, 0, 8, 0, 8, 8, 8, 8, 0, 0), 1, 0, 0, 0, 0, 0);
        dueLayers("one step outside the others", desk(0, 0, 8, 0, 8, 8, 0, 8, 4, -1), 1,
                0, 0, 0, 0, 0);
        dueLayers("at the limits, just within",
                desk(-100000, -100000, 100000, 99999, -100000, 100000, -99999, -99999), 2,
                0, 0, 0, 1);
    }

    @Sentence(in = "Terms", words = "(on one line: all)")
    static void allPointsOnOneLineAreLayer0() {
        dueLayers("a line", desk(0, 0, 1, 1, 2, 2, 3, 3, 1, 1), 1, 0, 0, 0, 0, 0);
        dueLayers("one place", desk(4, 4, 4, 4, 4, 4), 1, 0, 0, 0);
        dueLayers("two corners one step beside the line", desk(0, 0, 3, 4, 6, 6, 3, 2, 3, 3), 2,
                0, 0, 0, 0, 1);
        due("60 at one place", atOnePlace(60).layer(59), 0);
    }

    @Sentence(in = "Terms", words = "those on the border of the hull of what is left, and so on")
    static void theInnermostLayerMayBeALineOrAPlace() {
        int[] square = {0, 0, 9, 0, 9, 9, 0, 9};
        PointDesk line = desk(square);
        line.add(2, 3);
        line.add(4, 3);
        line.add(7, 3);
        dueLayers("a line within", line, 2, 0, 0, 0, 0, 1, 1, 1);
        PointDesk place = desk(square);
        place.add(4, 4);
        place.add(4, 4);
        dueLayers("a place within", place, 2, 0, 0, 0, 0, 1, 1);
        PointDesk three = desk(square);
        three.add(2, 2);
        three.add(6, 2);
        three.add(2, 6);
        three.add(3, 3);
        dueLayers("a third layer", three, 3, 0, 0, 0, 0, 1, 1, 1, 2);
        PointDesk touching = desk(square);
        touching.add(2, 2);
        touching.add(6, 2);
        touching.add(2, 6);
        touching.add(4, 4);
        dueLayers("on the border of the second", touching, 2, 0, 0, 0, 0, 1, 1, 1, 1);
    }

    @Sentence(in = "Terms", words = "those on the border of the hull of what is left, and so on")
    static void sixtyPointsMakeTwentyLayersAtMost() {
        PointDesk deep = trianglesWithinEachOther(20);
        due("count(2)", deep.count(2), 20);
        for (int p = 0; p < 60; p++) {
            due("layer(" + p + ")", deep.layer(p), p / 3);
        }
    }

    // ---- Promise 6

    @Sentence(in = "Promise 6", words = "NONE when there is none such")
    static void cornerBeforeTheFirstAndBehindTheLast() {
        PointDesk desk = desk(0, 0, 4, 0, 0, 4);
        due("corner(0)", desk.corner(0), 0);
        due("corner(2)", desk.corner(2), 2);
        int[] none = {-1, 3, 60, MAX, MIN};
        for (int i : none) {
            due("corner(" + i + ")", desk.corner(i), -1);
        }
        due("corner(0) without points", desk().corner(0), -1);
        due("corner(1) of one", desk(3, 3).corner(1), -1);
        due("corner(2) of a line", desk(3, 3, 4, 4, 5, 5).corner(2), -1);
        PointDesk full = curve(60);
        due("corner(59) of 60", full.corner(59), 59);
        due("corner(60) of 60", full.corner(60), -1);
    }

    @Sentence(in = "Promise 6", words = "The point of corner i")
    static void cornersFollowThePoints() {
        PointDesk desk = desk(0, 0, 4, 0, 0, 4);
        due("corner(2) before", desk.corner(2), 2);
        desk.add(4, 4);
        dueCorners("one more", desk, 0, 1, 3, 2);
        desk.add(100001, 0);
        dueCorners("one refused", desk, 0, 1, 3, 2);
        desk.add(2, 2);
        dueCorners("one within", desk, 0, 1, 3, 2);
    }

    // ---- Promise 7

    @Sentence(in = "Promise 7", words = "Twice the area of the hull.")
    static void areaFromNothingToTheGreatest() {
        due("none", desk().area(), 0);
        due("one", desk(4, 5).area(), 0);
        due("two", desk(4, 5, 9, 9).area(), 0);
        due("a line", desk(0, 0, 7, 7, 3, 3).area(), 0);
        due("one place", atOnePlace(60).area(), 0);
        due("the least", desk(0, 0, 1, 0, 0, 1).area(), 1);
        due("the least, from limit to limit",
                desk(-100000, -100000, 100000, 99999, -99999, -99999).area(), 1);
        due("the greatest", desk(-100000, -100000, 100000, -100000, 100000, 100000,
                -100000, 100000).area(), 80000000000L);
    }

    // ---- Promise 8

    @Sentence(in = "Promise 8", words = "NONE when there is no such point")
    static void layerBeforeTheFirstAndBehindTheLastPoint() {
        PointDesk desk = desk(0, 0, 4, 0, 0, 4, 1, 1);
        due("layer(0)", desk.layer(0), 0);
        due("layer(3)", desk.layer(3), 1);
        int[] none = {-1, 4, 60, MAX, MIN};
        for (int point : none) {
            due("layer(" + point + ")", desk.layer(point), -1);
        }
        due("layer(0) without points", desk().layer(0), -1);
        due("layer(60) of 60", curve(60).layer(60), -1);
        desk.clear();
        due("layer(0) behind clear", desk.layer(0), -1);
    }

    @Sentence(in = "Promise 8", words = "The layer of a point")
    static void layersFollowThePoints() {
        PointDesk desk = desk(0, 0, 4, 0, 0, 4, 1, 1);
        due("layer(0) before", desk.layer(0), 0);
        desk.add(-9, -1);
        desk.add(9, -1);
        desk.add(0, 9);
        dueLayers("three round them", desk, 3, 1, 1, 1, 2, 0, 0, 0);
    }

    // ---- Promise 11

    @Sentence(in = "Promise 11", words = "NONE for others")
    static void bestOfOthers() {
        PointDesk desk = desk(0, 0, 4, 0, 0, 4);
        due("best(0)", desk.best(0), 1);
        due("best(1)", desk.best(1), 0);
        int[] others = {-1, 2, MAX, MIN};
        for (int what : others) {
            due("best(" + what + ")", desk.best(what), -1);
        }
    }

    @Sentence(in = "Promise 11", words = "or with less than three corners")
    static void bestOfLessThanThreeCorners() {
        for (int what = 0; what <= 1; what++) {
            due("none", desk().best(what), -1);
            due("one", desk(3, 3).best(what), -1);
            due("one place", atOnePlace(60).best(what), -1);
            due("two", desk(3, 3, 4, 4).best(what), -1);
            due("a line", desk(3, 3, 4, 4, 5, 5).best(what), -1);
            due("one step beside the line", desk(3, 3, 4, 4, 5, 6).best(what), 2);
        }
    }

    // ---- Promise 12

    @Sentence(in = "Promise 12", words = "The height (what 0), length (1), span (2) of a side")
    static void sideTellsAllThree() {
        PointDesk desk = desk(0, 0, 6, 0, 9, 3, 2, 5, 4, 2);
        long[][] want = {{30, 36, 54}, {27, 18, 36}, {39, 53, 57}, {39, 29, 33}};
        for (int i = 0; i < 4; i++) {
            for (int what = 0; what <= 2; what++) {
                due("side(" + i + ", " + what + ")", desk.side(i, what), want[i][what]);
            }
        }
    }

    @Sentence(in = "Promise 12", words = "IndexOutOfBoundsException when there is no such side")
    static void sideThrowsBeforeTheFirstAndBehindTheLast() {
        PointDesk desk = desk(0, 0, 4, 0, 0, 4, 1, 1);
        due("side(0, 1)", desk.side(0, 1), 16);
        due("side(2, 1)", desk.side(2, 1), 16);
        int[] none = {-1, 3, 60, MAX, MIN};
        for (int i : none) {
            dueIndex("side(" + i + ", 0)", () -> desk.side(i, 0));
        }
        PointDesk full = curve(60);
        due("side(59, 0) of 60", full.side(59, 0), 59 * (30 * 29));
        dueIndex("side(60, 0) of 60", () -> full.side(60, 0));
    }

    @Sentence(in = "Promise 12", words = "IndexOutOfBoundsException when there is no such side")
    static void sideThrowsWithLessThanThreeCorners() {
        dueIndex("side(0, 0) without points", () -> desk().side(0, 0));
        dueIndex("side(0, 0) of one", () -> desk(1, 1).side(0, 0));
        dueIndex("side(0, 0) of two", () -> desk(1, 1, 2, 2).side(0, 0));
        dueIndex("side(1, 0) of two", () -> desk(1, 1, 2, 2).side(1, 0));
        dueIndex("side(0, 0) of a line", () -> desk(1, 1, 2, 2, 3, 3).side(0, 0));
    }

    @Sentence(in = "Promise 12", words = "IllegalArgumentException when there is no such what")
    static void sideThrowsForOtherWhats() {
        PointDesk desk = desk(0, 0, 4, 0, 0, 4);
        int[] others = {-1, 3, MAX, MIN};
        for (int what : others) {
            dueArgument("side(0, " + what + ")", () -> desk.side(0, what));
            dueArgument("side(2, " + what + ")", () -> desk.side(2, what));
        }
    }

    @Sentence(in = "Promise 12", words = "IndexOutOfBoundsException when there is no such side")
    static void sideWithNeitherSideNorWhatThrowsForTheSide() {
        PointDesk desk = desk(0, 0, 4, 0, 0, 4);
        dueIndex("side(3, 3)", () -> desk.side(3, 3));
        dueIndex("side(-1, -1)", () -> desk.side(-1, -1));
        dueIndex("side(0, 3) of two", () -> desk(0, 0, 4, 0).side(0, 3));
    }

    // ---- Promise 13

    @Sentence(in = "Promise 13", words = "1 when a place lies within the hull")
    static void oneStepWithinTheBorder() {
        PointDesk desk = desk(0, 0, 10, 0, 10, 10, 0, 10);
        int[][] within = {{1, 1}, {9, 1}, {9, 9}, {1, 9}, {5, 1}, {9, 5}, {5, 9}, {1, 5}};
        for (int[] place : within) {
            due("where(" + place[0] + ", " + place[1] + ")", desk.where(place[0], place[1]), 1);
        }
        due("just within at the limits",
                desk(-100000, -100000, 100000, 99999, -100000, 100000).where(-99999, -99999), 1);
    }

    @Sentence(in = "Promise 13", words = "0 when on its border")
    static void onTheBorder() {
        PointDesk desk = desk(0, 0, 10, 0, 10, 10, 0, 10);
        int[][] border = {{0, 0}, {10, 0}, {10, 10}, {0, 10}, {5, 0}, {10, 5}, {5, 10}, {0, 5}};
        for (int[] place : border) {
            due("where(" + place[0] + ", " + place[1] + ")", desk.where(place[0], place[1]), 0);
        }
        PointDesk far = desk(-100000, -100000, 100000, 100000, -100000, 100000);
        due("on a slanted side", far.where(0, 0), 0);
        due("one step within it", far.where(0, 1), 1);
        due("one step outside it", far.where(1, 0), -1);
        due("at a limit", far.where(-100000, 100000), 0);
    }

    @Sentence(in = "Promise 13", words = "(on one line or at one place: when it is in the hull)")
    static void inAHullThatIsALineOrAPlace() {
        PointDesk line = desk(3, 1, 0, 0, 9, 3);
        due("between", line.where(6, 2), 0);
        due("the first end", line.where(0, 0), 0);
        due("the last end", line.where(9, 3), 0);
        due("before", line.where(-3, -1), -1);
        due("behind", line.where(12, 4), -1);
        due("one step beside", line.where(6, 3), -1);
        due("one step beside, on the other hand", line.where(6, 1), -1);
        PointDesk upright = desk(4, 0, 4, 5);
        due("on an upright line", upright.where(4, 3), 0);
        due("one step above it", upright.where(4, 6), -1);
        due("one step below it", upright.where(4, -1), -1);
        PointDesk place = atOnePlace(60);
        due("at the one place", place.where(5, 5), 0);
        due("one step to the right", place.where(6, 5), -1);
        due("one step up", place.where(5, 6), -1);
    }

    @Sentence(in = "Promise 13", words = "-1 when outside")
    static void oneStepOutsideTheBorder() {
        PointDesk desk = desk(0, 0, 10, 0, 10, 10, 0, 10);
        int[][] outside = {{-1, -1}, {11, 0}, {10, 11}, {-1, 10}, {5, -1}, {11, 5}, {5, 11},
            {-1, 5}, {0, -1}, {0, 11}};
        for (int[] place : outside) {
            due("where(" + place[0] + ", " + place[1] + ")", desk.where(place[0], place[1]), -1);
        }
        due("just outside at the limits",
                desk(-100000, -100000, 100000, 99999, -100000, 100000).where(99999, 99998), -1);
    }

    @Sentence(in = "Promise 13", words = "or without points")
    static void whereWithoutPoints() {
        PointDesk desk = desk();
        due("none", desk.where(0, 0), -1);
        desk.add(0, 0);
        due("one", desk.where(0, 0), 0);
        desk.clear();
        due("behind clear", desk.where(0, 0), -1);
    }

    @Sentence(in = "Promise 13", words = "IllegalArgumentException when x or y is too large")
    static void whereThrowsOneStepBeyondEachLimit() {
        PointDesk desk = desk(0, 0, 4, 0, 0, 4);
        dueArgumentBeyondTheLimits("where", desk::where);
        dueArgumentBeyondTheLimits("where without points", desk()::where);
    }
}
