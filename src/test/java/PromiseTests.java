import java.math.BigInteger;

/** For each promise of the document: ordinary inputs, the edges it names, and wrong inputs. */
public final class PromiseTests extends Checks {
    public static void main(String[] args) {
        promise1NewObject();
        promise2Add();
        promise3Clear();
        promise4Count();
        promise5At();
        promise6Corner();
        promise7Area();
        promise8Layer();
        promise9Pair();
        promise10Distance();
        promise11Best();
        promise12Side();
        promise13Where();
        promise14Nearest();
        promise15Beside();
        promise16Go();
        promise17Stop();
        promise18Place();
        promise19Turn();
        promise20Crossings();
        promise21Crossing();
        promise22Simple();
        promise23Round();
        promise24Inside();
        promise25Triangle();
        promise26Check();
        whatThrowsChangesNothing();
        finish();
    }

    private static void promise1NewObject() {
        about("promise 1");
        due("NONE", PointDesk.NONE, -1);
        PointDesk desk = new PointDesk();
        for (int what = 0; what <= 5; what++) {
            due("count(" + what + ")", desk.count(what), 0);
        }
        due("corner(0)", desk.corner(0), -1);
        due("place(0)", desk.place(0), -1);
        due("crossings()", desk.crossings(), 0);
        due("check()", desk.check(), 1);
        PointDesk other = desk(1, 2, 3, 4);
        due("points of one object are not another's", desk.count(0), 0);
        due("count(0)", other.count(0), 2);
    }

    private static void promise2Add() {
        about("promise 2");
        PointDesk desk = new PointDesk();
        int[][] tooLarge = {{100001, 0}, {-100001, 0}, {0, 100001}, {0, -100001}, {MAX, 0},
            {MIN, 0}, {0, MAX}, {0, MIN}, {100001, 100001}};
        for (int[] xy : tooLarge) {
            due("add(" + xy[0] + ", " + xy[1] + ")", desk.add(xy[0], xy[1]), -1);
        }
        due("count(0) after none was added", desk.count(0), 0);
        due("add(100000, -100000)", desk.add(100000, -100000), 0);
        due("add(-100000, 100000)", desk.add(-100000, 100000), 1);
        due("at(0, 0)", desk.at(0, 0), 100000);
        due("at(0, 1)", desk.at(0, 1), -100000);
        due("at(1, 0)", desk.at(1, 0), -100000);
        due("at(1, 1)", desk.at(1, 1), 100000);
        for (int i = 2; i < 60; i++) {
            due("add number " + i, desk.add(i, i * i), i);
        }
        due("add beyond 60", desk.add(0, 0), -1);
        due("count(0) stays 60", desk.count(0), 60);
        due("at(59, 1) stays", desk.at(59, 1), 59 * 59);
        due("where(7, 50) with 60 points", desk.where(7, 50), 1);
        due("at(59, 0) behind where", desk.at(59, 0), 59);
    }

    private static void promise3Clear() {
        about("promise 3");
        PointDesk desk = routed(0, 0, 9, 0, 9, 9, 0, 9, 4, 4);
        due("area()", desk.area(), 162);
        due("layer(4)", desk.layer(4), 1);
        due("crossings() before", desk.crossings(), 0);
        due("triangle(0) before", desk.triangle(0), triangle(4, 0, 1));
        due("clear()", desk.clear(), 5);
        for (int what = 0; what <= 5; what++) {
            due("count(" + what + ") after clear", desk.count(what), 0);
        }
        due("corner(0)", desk.corner(0), -1);
        due("area()", desk.area(), 0);
        due("layer(0)", desk.layer(0), -1);
        due("simple()", desk.simple(), 0);
        due("round()", desk.round(), 0);
        due("triangle(0)", desk.triangle(0), -1);
        due("place(0)", desk.place(0), -1);
        due("go(0)", desk.go(0), -1);
        due("clear() again", desk.clear(), 0);
        due("add after clear", desk.add(3, 3), 0);
        due("corner(0) after clear and add", desk.corner(0), 0);
        due("at(0, 0)", desk.at(0, 0), 3);
    }

    private static void promise4Count() {
        about("promise 4");
        PointDesk desk = desk(0, 0, 4, 0, 4, 4, 0, 4, 2, 2, 2, 2, 2, 2, 1, 2);
        go(desk, 0, 0, 7);
        due("count(0)", desk.count(0), 8);
        due("count(1)", desk.count(1), 4);
        due("count(2)", desk.count(2), 2);
        due("count(3)", desk.count(3), 3);
        due("count(4)", desk.count(4), 3);
        // The three at (2,2); two of them with any of five others (15); one of them with
        // two corners over against each other (3 times 2).
        due("count(5)", desk.count(5), 1 + 15 + 6);
        int[] others = {-1, 6, 7, MAX, MIN};
        for (int what : others) {
            due("count(" + what + ")", desk.count(what), -1);
        }
        PointDesk full = atOnePlace(60);
        due("count(1) of 60 at one place", full.count(1), 1);
        due("count(2) of 60 at one place", full.count(2), 1);
        due("count(4) of 60 at one place", full.count(4), 60 * 59 / 2);
        due("count(5) of 60 at one place", full.count(5), 60 * 59 * 58 / 6);
        due("count(5) of a far triangle that is nearly flat",
                desk(-100000, -100000, 99999, 99999, 100000, 99999).count(5), 0);
    }

    private static void promise5At() {
        about("promise 5");
        PointDesk desk = desk(3, -4, -5, 6);
        due("at(0, 0)", desk.at(0, 0), 3);
        due("at(0, 1)", desk.at(0, 1), -4);
        due("at(1, 0)", desk.at(1, 0), -5);
        due("at(1, 1)", desk.at(1, 1), 6);
        int[] points = {-1, 2, 60, 61, MAX, MIN};
        for (int point : points) {
            dueIndex("at(" + point + ", 0)", () -> desk.at(point, 0));
            dueIndex("at(" + point + ", 2)", () -> desk.at(point, 2));
        }
        int[] whats = {-1, 2, MAX, MIN};
        for (int what : whats) {
            dueArgument("at(0, " + what + ")", () -> desk.at(0, what));
        }
    }

    private static void promise6Corner() {
        about("promise 6");
        dueCorners("none", desk());
        dueCorners("one", desk(7, 7), 0);
        dueCorners("one place", desk(7, 7, 7, 7, 7, 7), 0);
        dueCorners("a line", desk(2, 2, 0, 0, 5, 5, 3, 3), 1, 2);
        dueCorners("a flat line starts at the left", desk(5, 1, 0, 1, 9, 1, 3, 1), 1, 2);
        dueCorners("an upright line", desk(5, 1, 5, 8, 5, -3), 2, 1);
        dueCorners("a falling line starts at its foot", desk(0, 9, 9, 0, 3, 6), 1, 0);
        dueCorners("a square with points on its sides",
                desk(0, 4, 2, 4, 4, 4, 4, 2, 4, 0, 2, 0, 0, 0, 0, 2, 2, 2), 6, 4, 2, 0);
        dueCorners("the least of several at one place",
                desk(1, 1, 6, 0, 0, 0, 3, 6, 6, 0, 0, 0, 3, 6, 0, 0), 2, 1, 3);
        dueCorners("two lowest ones", desk(3, 0, 1, 5, -3, 0), 2, 0, 1);
        dueCorners("the far ends", desk(100000, 100000, -100000, 100000, 100000, -100000,
                -100000, -100000, 0, 99999), 3, 2, 0, 1);
        PointDesk desk = desk(0, 0, 4, 0, 0, 4);
        int[] none = {-1, 3, 60, MAX, MIN};
        for (int i : none) {
            due("corner(" + i + ")", desk.corner(i), -1);
        }
        PointDesk curve = curve(60);
        due("count(1) of a curve", curve.count(1), 60);
        for (int i = 0; i < 60; i++) {
            due("corner(" + i + ") of a curve", curve.corner(i), i);
        }
        due("corner(60) of a curve", curve.corner(60), -1);
        desk.add(4, 4);
        dueCorners("a corner that came later", desk, 0, 1, 3, 2);
    }

    private static void promise7Area() {
        about("promise 7");
        due("none", desk().area(), 0);
        due("one", desk(4, 5).area(), 0);
        due("a line", desk(0, 0, 7, 7, 3, 3).area(), 0);
        due("a triangle", desk(1, 1, 4, 1, 1, 3).area(), 6);
        due("the other way round", desk(1, 1, 1, 3, 4, 1).area(), 6);
        due("a dent does not count", desk(0, 0, 4, 0, 4, 4, 2, 1, 0, 4).area(), 32);
        due("the greatest", desk(100000, 100000, -100000, -100000, 100000, -100000,
                -100000, 100000).area(), 80000000000L);
    }

    private static void promise8Layer() {
        about("promise 8");
        dueLayers("none", desk(), 0);
        dueLayers("one", desk(3, 3), 1, 0);
        dueLayers("a line", desk(0, 0, 1, 1, 2, 2, 1, 1), 1, 0, 0, 0, 0);
        dueLayers("squares", desk(0, 0, 8, 0, 8, 8, 0, 8, 1, 1, 7, 1, 7, 7, 1, 7, 4, 4, 4, 0, 1, 4),
                3, 0, 0, 0, 0, 1, 1, 1, 1, 2, 0, 1);
        dueLayers("a line within", desk(0, 0, 9, 0, 9, 9, 0, 9, 2, 3, 4, 3, 7, 3, 4, 3),
                2, 0, 0, 0, 0, 1, 1, 1, 1);
        dueLayers("several at a corner", desk(0, 0, 6, 0, 0, 6, 6, 0, 1, 1, 1, 1),
                2, 0, 0, 0, 0, 1, 1);
        PointDesk deep = trianglesWithinEachOther(20);
        due("count(2) of triangles", deep.count(2), 20);
        for (int p = 0; p < 60; p++) {
            due("layer(" + p + ") of triangles", deep.layer(p), p / 3);
        }
        int[] none = {-1, 60, 61, MAX, MIN};
        for (int p : none) {
            due("layer(" + p + ")", deep.layer(p), -1);
        }
        PointDesk growing = desk(0, 0, 4, 0, 0, 4, 1, 1);
        due("layer(2)", growing.layer(2), 0);
        growing.add(-9, 9);
        growing.add(9, 9);
        due("layer(2) after more were added", growing.layer(2), 1);
        due("layer(3) after more were added", growing.layer(3), 1);
    }

    private static void promise9Pair() {
        about("promise 9");
        due("none, far", desk().pair(0), -1);
        due("one, near", desk(1, 1).pair(1), -1);
        due("two, far", desk(1, 1, 5, 5).pair(0), 1);
        due("two, near", desk(1, 1, 5, 5).pair(1), 1);
        PointDesk desk = desk(0, 0, 3, 0, 10, 0, 11, 0, 4, 0);
        due("far", desk.pair(0), 3);
        due("near, the least i first", desk.pair(1), 64 + 4);
        desk.add(11, 0);
        due("far, the least k", desk.pair(0), 3);
        due("near, at one place", desk.pair(1), 64 * 3 + 5);
        PointDesk square = desk(5, 5, 0, 0, 4, 0, 4, 4, 0, 4, 5, 6);
        due("far of a square", square.pair(0), 64 + 5);
        due("near of a square", square.pair(1), 5);
        due("the last two", desk(0, 0, 10, 0, 20, 0, 29, 0).pair(1), 64 * 2 + 3);
        due("the first and the last", desk(0, 0, 5, 0, 1, 0).pair(1), 2);
        due("all the same", desk(2, 2, 2, 2, 2, 2).pair(0), 1);
        due("the far ends", desk(0, 0, -100000, -100000, 100000, 100000).pair(0), 64 + 2);
        int[] ways = {-1, 2, MAX, MIN};
        for (int way : ways) {
            due("pair(" + way + ")", desk.pair(way), -1);
        }
    }

    private static void promise10Distance() {
        about("promise 10");
        PointDesk desk = desk(0, 0, 3, 4, 3, 4, -100000, -100000, 100000, 100000);
        due("distance(0, 1)", desk.distance(0, 1), 25);
        due("distance(1, 0)", desk.distance(1, 0), 25);
        due("distance(1, 2)", desk.distance(1, 2), 0);
        due("distance(0, 0)", desk.distance(0, 0), 0);
        due("distance(3, 4)", desk.distance(3, 4), 80000000000L);
        int[] none = {-1, 5, 60, MAX, MIN};
        for (int point : none) {
            dueIndex("distance(0, " + point + ")", () -> desk.distance(0, point));
            dueIndex("distance(" + point + ", 0)", () -> desk.distance(point, 0));
        }
    }

    private static void promise11Best() {
        about("promise 11");
        due("none", desk().best(0), -1);
        due("a line", desk(0, 0, 5, 5).best(1), -1);
        PointDesk flat = desk(0, 0, 1, 0, 9, 4, 8, 4);
        // Heights 4 4 4 4 over lengths 1 80 1 80.
        due("thinnest of a slanted strip", flat.best(0), 1);
        // Height times span over length: 4 times 9 over 1, and 4 times 88 over 80.
        due("box of a slanted strip", flat.best(1), 1);
        // Heights 24 9 26 26, lengths 29 2 41 20, spans 32 6 42 20.
        PointDesk kite = desk(4, 3, 6, 8, 5, 9, 0, 5);
        due("thinnest of a kite", kite.best(0), 2);
        due("box of a kite", kite.best(1), 3);
        due("first of equals", desk(0, 0, 4, 0, 4, 4, 0, 4).best(0), 0);
        due("box, first of equals", desk(0, 0, 4, 0, 4, 4, 0, 4).best(1), 0);
        due("thinnest is the longest side of a triangle", desk(0, 0, 6, 0, 3, 6).best(0), 1);
        due("all boxes of a triangle are alike", desk(0, 0, 6, 0, 3, 6).best(1), 0);
        // Parallel sides, one three times the other, tie though no long can hold the products.
        PointDesk tie = desk(-99999, -99998, 99999, -2, 33333, 100, -33333, -33232);
        due("thinnest at the far ends", tie.best(0), 0);
        due("box at the far ends", tie.best(1), bestByHand(tie, 1));
        int[] whats = {-1, 2, MAX, MIN};
        for (int what : whats) {
            due("best(" + what + ")", kite.best(what), -1);
        }
    }

    /** From the answers of side, with numbers of any size. */
    private static int bestByHand(PointDesk desk, int what) {
        int found = 0;
        for (int i = 1; i < desk.count(1); i++) {
            BigInteger mine = product(desk, i, what).multiply(big(desk.side(found, 1)));
            BigInteger other = product(desk, found, what).multiply(big(desk.side(i, 1)));
            if (mine.compareTo(other) < 0) {
                found = i;
            }
        }
        return found;
    }

    private static BigInteger product(PointDesk desk, int i, int what) {
        return big(desk.side(i, 0)).multiply(big(desk.side(i, what == 0 ? 0 : 2)));
    }

    private static BigInteger big(long value) {
        return BigInteger.valueOf(value);
    }

    private static void promise12Side() {
        about("promise 12");
        PointDesk desk = desk(0, 0, 6, 0, 9, 3, 2, 5, 4, 2);
        long[][] want = {{30, 36, 54}, {27, 18, 36}, {39, 53, 57}, {39, 29, 33}};
        for (int i = 0; i < 4; i++) {
            for (int what = 0; what < 3; what++) {
                due("side(" + i + ", " + what + ")", desk.side(i, what), want[i][what]);
            }
        }
        int[] none = {-1, 4, 60, MAX, MIN};
        for (int i : none) {
            dueIndex("side(" + i + ", 0)", () -> desk.side(i, 0));
            dueIndex("side(" + i + ", 3)", () -> desk.side(i, 3));
        }
        int[] whats = {-1, 3, MAX, MIN};
        for (int what : whats) {
            dueArgument("side(0, " + what + ")", () -> desk.side(0, what));
        }
        PointDesk line = desk(0, 0, 5, 0, 9, 0);
        dueIndex("side(0, 0) on a line", () -> line.side(0, 0));
        dueIndex("side(0, 7) on a line", () -> line.side(0, 7));
        dueIndex("side(0, 0) without points", () -> new PointDesk().side(0, 0));
        PointDesk slanted = desk(0, 0, 1, 0, 9, 4, 8, 4);
        due("span that reaches behind both ends", slanted.side(2, 2), 9);
        due("span with places before the first end", desk(0, 0, 4, 0, -3, 5).side(0, 2), 28);
        PointDesk far = desk(-100000, -100000, 100000, 100000, -100000, 100000, 100000, 99999);
        due("far length", far.side(0, 1), 200000L * 200000 + 199999L * 199999);
    }

    private static void promise13Where() {
        about("promise 13");
        due("without points", desk().where(0, 0), -1);
        PointDesk one = desk(5, 5, 5, 5);
        due("at the one place", one.where(5, 5), 0);
        due("not at the one place", one.where(5, 6), -1);
        PointDesk line = desk(0, 0, 9, 3, 3, 1);
        due("between on a line", line.where(6, 2), 0);
        due("an end of a line", line.where(9, 3), 0);
        due("behind a line", line.where(12, 4), -1);
        due("before a line", line.where(-3, -1), -1);
        due("beside a line", line.where(6, 3), -1);
        PointDesk desk = desk(0, 0, 10, 0, 10, 10, 0, 10);
        due("within", desk.where(1, 9), 1);
        due("on the border", desk.where(0, 4), 0);
        due("at a corner", desk.where(10, 10), 0);
        due("on a side's line, outside", desk.where(12, 0), -1);
        due("on a side's line, outside, before", desk.where(0, -1), -1);
        due("outside", desk.where(11, 5), -1);
        due("far away", desk.where(-100000, 100000), -1);
        due("count(0) stays", desk.count(0), 4);
        dueArgumentBeyondTheLimits("where", (x, y) -> desk.where(x, y));
        dueArgumentBeyondTheLimits("where without points", (x, y) -> new PointDesk().where(x, y));
    }

    private static void promise14Nearest() {
        about("promise 14");
        due("without points", desk().nearest(0, 0), -1);
        PointDesk desk = desk(0, 0, 10, 0, 10, 0, 5, 8, -100000, -100000);
        due("at a point", desk.nearest(5, 8), 3);
        due("near a point", desk.nearest(9, 1), 1);
        due("two as near", desk.nearest(5, 0), 0);
        due("two as near, the least", desk.nearest(10, 0), 1);
        due("a far one", desk.nearest(-100000, -50001), 4);
        due("the farthest", desk(-100000, -100000).nearest(100000, 100000), 0);
        dueArgumentBeyondTheLimits("nearest", (x, y) -> desk.nearest(x, y));
        dueArgumentBeyondTheLimits("nearest without points",
                (x, y) -> new PointDesk().nearest(x, y));
    }

    private static void promise15Beside() {
        about("promise 15");
        PointDesk desk = desk(0, 0, 4, 0, 2, 3, 9, 1, -5, 0, 1, -1, 0, 0);
        due("left", desk.beside(0, 1, 1), 2);
        due("right", desk.beside(0, 1, -1), 1);
        due("on it", desk.beside(0, 1, 0), 4);
        due("left, other way", desk.beside(1, 0, 1), 1);
        due("right, other way", desk.beside(1, 0, -1), 2);
        due("on it, other way", desk.beside(1, 0, 0), 4);
        due("one place", desk.beside(0, 6, 0), -1);
        due("one point", desk.beside(2, 2, 1), -1);
        int[] ways = {-2, 2, MAX, MIN};
        for (int way : ways) {
            due("beside(0, 1, " + way + ")", desk.beside(0, 1, way), -1);
        }
        int[] none = {-1, 7, 60, MAX, MIN};
        for (int point : none) {
            dueIndex("beside(0, " + point + ", 0)", () -> desk.beside(0, point, 0));
            dueIndex("beside(" + point + ", 0, 5)", () -> desk.beside(point, 0, 5));
            dueIndex("beside(" + point + ", same)", () -> desk.beside(point, point, 1));
        }
        PointDesk unit = desk(0, 0, 1, 0, 0, 1, 0, -1);
        due("just on the left", unit.beside(0, 1, 1), 1);
        due("just on the right", unit.beside(0, 1, -1), 1);
        PointDesk far = desk(-100000, -100000, 100000, 99999, 0, 0, 0, -1);
        due("far left", far.beside(0, 1, 1), 1);
        due("far right", far.beside(0, 1, -1), 1);
    }

    private static void promise16Go() {
        about("promise 16");
        PointDesk desk = desk(1, 1, 2, 2);
        int[] none = {-1, 2, 60, MAX, MIN};
        for (int point : none) {
            due("go(" + point + ")", desk.go(point), -1);
        }
        due("count(3)", desk.count(3), 0);
        for (int i = 1; i <= 40; i++) {
            due("go number " + i, desk.go(i % 2), i);
        }
        due("go beyond 40", desk.go(0), -1);
        due("count(3) stays 40", desk.count(3), 40);
        due("place(39)", desk.place(39), 0);
        due("place(40)", desk.place(40), -1);
    }

    private static void promise17Stop() {
        about("promise 17");
        PointDesk desk = routed(0, 0, 4, 0, 0, 4);
        due("simple()", desk.simple(), 1);
        due("stop()", desk.stop(), 3);
        due("count(3)", desk.count(3), 0);
        due("count(0) stays", desk.count(0), 3);
        due("simple() behind stop", desk.simple(), 0);
        due("triangle(0) behind stop", desk.triangle(0), -1);
        due("stop() again", desk.stop(), 0);
        due("go(1)", desk.go(1), 1);
        due("place(0)", desk.place(0), 1);
    }

    private static void promise18Place() {
        about("promise 18");
        PointDesk desk = desk(0, 0, 4, 0, 0, 4);
        go(desk, 2, 0, 2, 1);
        int[] want = {2, 0, 2, 1};
        for (int i = 0; i < 4; i++) {
            due("place(" + i + ")", desk.place(i), want[i]);
        }
        int[] none = {-1, 4, 40, MAX, MIN};
        for (int i : none) {
            due("place(" + i + ")", desk.place(i), -1);
        }
    }

    private static void promise19Turn() {
        about("promise 19");
        PointDesk desk = routed(0, 0, 4, 0, 4, 4, 0, 4, 2, 7);
        desk.turn(1, 3);
        dueRoute("turn(1, 3)", desk, 0, 3, 2, 1, 4);
        desk.turn(0, 3);
        dueRoute("turn(0, 3)", desk, 1, 2, 3, 0, 4);
        desk.turn(2, 2);
        dueRoute("turn(2, 2)", desk, 1, 2, 3, 0, 4);
        desk.turn(0, 4);
        dueRoute("turn(0, 4)", desk, 4, 0, 3, 2, 1);
        int[][] none = {{3, 2}, {-1, 2}, {0, 5}, {5, 5}, {-1, -1}, {MIN, MAX}, {4, 0}, {0, MAX}};
        for (int[] ends : none) {
            dueTurnThrows(desk, ends[0], ends[1]);
        }
        dueRoute("turns that throw", desk, 4, 0, 3, 2, 1);
        PointDesk square = routed(0, 0, 4, 0, 4, 4, 0, 4);
        due("simple() before", square.simple(), 1);
        square.turn(0, 1);
        due("simple() behind turn", square.simple(), 0);
        square.turn(0, 1);
        due("simple() as before", square.simple(), 1);
    }

    private static void promise20Crossings() {
        about("promise 20");
        due("no route", desk(0, 0, 1, 1).crossings(), 0);
        due("two places", routed(0, 0, 1, 1).crossings(), 0);
        PointDesk twice = desk(0, 0, 9, 9);
        go(twice, 0, 0);
        due("two places at one", twice.crossings(), 0);
        go(twice, 0, 0, 0);
        due("three places at one", twice.crossings(), 0);
        go(twice, 0, 0, 0, 0);
        due("four places at one: sides 0 and 2, 1 and 3", twice.crossings(), 2);
        due("a line there and back", routed(0, 0, 3, 0, 6, 0).crossings(), 2);
        PointDesk unit = desk(0, 0, 1, 0);
        go(unit, 0, 1, 0);
        due("one step there and back", unit.crossings(), 1);
        due("a triangle", routed(0, 0, 3, 0, 0, 6).crossings(), 0);
        due("a bow", routed(0, 0, 4, 4, 4, 0, 0, 4).crossings(), 1);
        due("touched by a place", routed(0, 0, 8, 0, 8, 4, 4, 0, 0, 4).crossings(), 2);
        due("nearly touched", routed(0, 0, 8, 0, 8, 4, 4, 1, 0, 4).crossings(), 0);
        due("a spike", routed(0, 0, 4, 0, 9, 0, 4, 0, 4, 4).crossings(), 4);
        due("on one line but apart",
                routed(0, 0, 2, 0, 2, 5, 4, 5, 4, 0, 6, 0, 6, 9, 0, 9).crossings(), 0);
        PointDesk star = routed(0, 100, -59, -81, 95, 31, -95, 31, 59, -81);
        due("a star", star.crossings(), 5);
        due("40 places to and fro", toAndFro(40).crossings(), 780);
    }

    private static void promise21Crossing() {
        about("promise 21");
        dueCrossings("no route", desk());
        dueCrossings("a bow", routed(0, 0, 4, 4, 4, 0, 0, 4), 2);
        dueCrossings("the other sides of a bow", routed(0, 0, 4, 0, 0, 4, 4, 4), 64 + 3);
        dueCrossings("a star", routed(0, 100, -59, -81, 95, 31, -95, 31, 59, -81),
                2, 3, 64 + 3, 64 + 4, 128 + 4);
        dueCrossings("a line there and back", routed(0, 0, 3, 0, 6, 0), 2, 64 + 2);
        dueCrossings("the first and the last fold", routed(3, 0, 6, 0, 0, 6, 9, 0), 3, 64 + 3);
        // Two objects, because one is good for 512 calls.
        PointDesk low = toAndFro(40);
        PointDesk high = toAndFro(40);
        int pair = 0;
        for (int i = 0; i < 40; i++) {
            for (int k = i + 1; k < 40; k++) {
                PointDesk most = pair < 400 ? low : high;
                due("crossing(" + pair + ") to and fro", most.crossing(pair), 64 * i + k);
                pair++;
            }
        }
        int[] none = {-1, 780, MAX, MIN};
        for (int i : none) {
            due("crossing(" + i + ")", high.crossing(i), -1);
        }
    }

    private static void promise22Simple() {
        about("promise 22");
        due("no route", desk(0, 0).simple(), 0);
        due("one place", routed(0, 0).simple(), 0);
        due("two places", routed(0, 0, 4, 4).simple(), 0);
        due("a triangle", routed(0, 0, 4, 4, 0, 9).simple(), 1);
        due("a line", routed(0, 0, 4, 0, 9, 0).simple(), 0);
        due("straight places", routed(0, 0, 4, 0, 9, 0, 9, 9).simple(), 1);
        due("a bow", routed(0, 0, 4, 4, 4, 0, 0, 4).simple(), 0);
        due("touched by a place", routed(0, 0, 8, 0, 8, 4, 4, 0, 0, 4).simple(), 0);
        PointDesk same = desk(2, 2, 2, 2, 2, 2, 5, 5);
        go(same, 0, 1, 2);
        due("three at one place", same.simple(), 0);
        go(same, 0, 0, 0);
        due("three times one", same.simple(), 0);
        go(same, 0, 1, 3);
        due("two at one place", same.simple(), 0);
        PointDesk late = routed(0, 0, 4, 0, 4, 4);
        due("before it goes on", late.simple(), 1);
        late.add(3, -3);
        due("a new point changes no route", late.simple(), 1);
        late.go(3);
        due("behind one more place", late.simple(), 0);
    }

    private static void promise23Round() {
        about("promise 23");
        due("no route", desk().round(), 0);
        due("two places", routed(3, 1, 1, 4).round(), 0);
        due("left round", routed(0, 0, 4, 0, 4, 3).round(), 12);
        due("right round", routed(0, 0, 4, 3, 4, 0).round(), -12);
        due("away from the middle", routed(10, 10, 14, 10, 14, 13).round(), 12);
        due("a bow", routed(0, 0, 4, 4, 4, 0, 0, 4).round(), 0);
        PointDesk far = desk(-100000, -100000, 100000, -100000, 100000, 100000, -100000, 100000);
        for (int i = 0; i < 40; i++) {
            far.go(i % 4);
        }
        due("ten times round", far.round(), 800000000000L);
    }

    private static void promise24Inside() {
        about("promise 24");
        due("no route", desk().inside(0, 0), -2);
        due("not simple", routed(0, 0, 4, 4, 4, 0, 0, 4).inside(9, 9), -2);
        int[] comb = {0, 0, 10, 0, 10, 6, 8, 2, 6, 6, 4, 2, 2, 6, 0, 2};
        PointDesk left = routed(comb);
        PointDesk right = routed(comb);
        right.turn(0, 7);
        PointDesk[] both = {left, right};
        for (PointDesk desk : both) {
            due("within", desk.inside(5, 1), 1);
            due("within a tooth", desk.inside(6, 5), 1);
            due("between two teeth", desk.inside(4, 5), -1);
            due("through places, outside", desk.inside(-1, 2), -1);
            due("through places, within", desk.inside(1, 2), 1);
            due("at the height of peaks", desk.inside(4, 6), -1);
            due("before all peaks", desk.inside(0, 6), -1);
            due("at the height of the ground", desk.inside(-5, 0), -1);
            due("behind the ground", desk.inside(11, 0), -1);
            due("on a side", desk.inside(10, 3), 0);
            due("on a slanted side", desk.inside(9, 4), 0);
            due("at a place", desk.inside(8, 2), 0);
            due("on the ground", desk.inside(3, 0), 0);
            due("far away", desk.inside(100000, -100000), -1);
            dueArgumentBeyondTheLimits("inside", (x, y) -> desk.inside(x, y));
        }
        PointDesk odd = routed(0, 0, 8, 0, 3, 8);
        due("within three sides", odd.inside(3, 3), 1);
        due("above three sides", odd.inside(3, 9), -1);
        due("below three sides", odd.inside(3, -1), -1);
        due("beside three sides", odd.inside(0, 7), -1);
        dueArgumentBeyondTheLimits("inside no route", (x, y) -> new PointDesk().inside(x, y));
        due("stays simple", left.simple(), 1);
    }

    private static void promise25Triangle() {
        about("promise 25");
        dueTriangles("no route", desk());
        dueTriangles("two places", routed(0, 0, 1, 1));
        dueTriangles("not simple", routed(0, 0, 4, 4, 4, 0, 0, 4));
        dueTriangles("three", routed(0, 0, 4, 0, 0, 4), 0, 1, 2);
        dueTriangles("three, right round", routed(0, 0, 0, 4, 4, 0), 0, 1, 2);
        dueTriangles("four", routed(0, 0, 4, 0, 4, 4, 0, 4), 3, 0, 1, 1, 2, 3);
        dueTriangles("four, as small as can be", routed(0, 0, 1, 0, 1, 1, 0, 1), 3, 0, 1, 1, 2, 3);
        dueTriangles("a dent", routed(0, 0, 8, 0, 2, 2, 0, 8), 0, 1, 2, 0, 2, 3);
        dueTriangles("a dent, right round", routed(0, 0, 0, 8, 2, 2, 8, 0), 0, 1, 2, 0, 2, 3);
        dueTriangles("a straight place is no ear", routed(4, 0, 8, 0, 4, 8, 0, 0),
                0, 1, 2, 0, 2, 3);
        dueTriangles("a place on the border hinders", routed(4, 8, 0, 0, 4, 0, 8, 0),
                0, 1, 2, 0, 2, 3);
        dueTriangles("a place that touches from afar hinders",
                routed(0, 0, 8, 0, 8, 8, 4, 4, 1, 8), 1, 2, 3, 0, 1, 3, 0, 3, 4);
        PointDesk curve = curveRouted(40);
        due("first of the most", curve.triangle(0), triangle(39, 0, 1));
        due("second of the most", curve.triangle(1), triangle(39, 1, 2));
        due("last of the most", curve.triangle(37), triangle(37, 38, 39));
        int[] none = {-1, 38, 40, MAX, MIN};
        for (int i : none) {
            due("triangle(" + i + ")", curve.triangle(i), -1);
        }
        curve.turn(0, 39);
        due("turned round", curve.triangle(0), triangle(39, 0, 1));
        curve.turn(3, 4);
        due("no longer simple", curve.triangle(0), -1);
    }

    private static void promise26Check() {
        about("promise 26");
        due("none", desk().check(), 1);
        due("one", desk(8, 8).check(), 1);
        due("a line", desk(8, 8, 3, 3, 1, 1).check(), 1);
        due("a bow", routed(0, 0, 4, 4, 4, 0, 0, 4).check(), 1);
        due("left round", routed(10, 10, 18, 10, 18, 18, 12, 12).check(), 1);
        due("right round", routed(10, 10, 12, 18, 18, 18, 18, 10).check(), 1);
        due("as small as can be", routed(0, 0, 1, 0, 0, 1).check(), 1);
        due("as small as can be, right round", routed(0, 0, 0, 1, 1, 0).check(), 1);
        due("the far ends", routed(-100000, -100000, 100000, -100000, 100000, 100000,
                -100000, 100000, 99999, 0).check(), 1);
        PointDesk desk = routed(0, 0, 4, 0, 4, 4);
        due("check()", desk.check(), 1);
        desk.add(-9, 7);
        due("behind add", desk.check(), 1);
        desk.go(3);
        due("behind go", desk.check(), 1);
        desk.turn(1, 2);
        due("behind turn", desk.check(), 1);
        desk.clear();
        due("behind clear", desk.check(), 1);
    }

    private static void whatThrowsChangesNothing() {
        about("what throws changes nothing");
        PointDesk desk = routed(0, 0, 8, 0, 8, 8, 0, 8);
        dueIndex("at", () -> desk.at(4, 0));
        dueIndex("distance", () -> desk.distance(4, 0));
        dueIndex("side", () -> desk.side(4, 0));
        dueIndex("beside", () -> desk.beside(0, 4, 0));
        dueArgument("where", () -> desk.where(100001, 0));
        dueArgument("nearest", () -> desk.nearest(100001, 0));
        dueArgument("inside", () -> desk.inside(100001, 0));
        dueTurnThrows(desk, 0, 4);
        due("count(0)", desk.count(0), 4);
        dueRoute("the route", desk, 0, 1, 2, 3);
        due("area()", desk.area(), 128);
        due("round()", desk.round(), 128);
        due("simple()", desk.simple(), 1);
    }
}
