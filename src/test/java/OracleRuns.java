import java.util.ArrayList;
import java.util.Arrays;
import java.util.Collections;
import java.util.HashSet;
import java.util.List;
import java.util.Random;
import java.util.Set;

/** Runs of calls from a fixed seed, each answer compared with that of the slow second program. */
public final class OracleRuns extends Compared {
    private static final int[] ODD =
            {-1, 2, 3, 7, 40, 60, 64, Integer.MAX_VALUE, Integer.MIN_VALUE};
    private static final int CALLS_OF_AN_OBJECT = 512;

    public static void main(String[] args) {
        Random random = new Random(20261115L);
        int[] reaches = {1, 2, 3, 5, 9, 30, 1000, 100000};
        for (int run = 0; run < 640 && goesOn(); run++) {
            mixedRun(random, reaches[run % reaches.length], run);
        }
        for (int run = 0; run < 640 && goesOn(); run++) {
            routeRun(random, reaches[2 + run % (reaches.length - 2)], run);
        }
        for (int run = 0; run < 400 && goesOn(); run++) {
            sidesRun(random, run);
        }
        finish();
    }

    // ---- runs of all kinds of calls

    private static void mixedRun(Random random, int reach, int run) {
        PointDesk desk = new PointDesk();
        Slow slow = new Slow();
        int first = random.nextInt(62);
        for (int i = 0; i < first; i++) {
            call(desk, slow, 0, near(random, reach), near(random, reach), 0, "mixed " + run);
        }
        for (int i = first; i < CALLS_OF_AN_OBJECT; i++) {
            int kind = random.nextInt(60) == 0 ? 1 : random.nextInt(26);
            if (kind == 1 && random.nextInt(6) != 0) {
                kind = 14;
            }
            int a = argument(random, slow, kind, reach);
            int b = argument(random, slow, kind, reach);
            call(desk, slow, kind, a, b, random.nextInt(5) - 2, "mixed " + run + " call " + i);
        }
    }

    private static int near(Random random, int reach) {
        return random.nextInt(2 * reach + 1) - reach;
    }

    private static int argument(Random random, Slow slow, int kind, int reach) {
        if (random.nextInt(25) == 0) {
            return ODD[random.nextInt(ODD.length)];
        }
        boolean isPlace = kind == 0 || kind == 11 || kind == 12 || kind == 22;
        if (isPlace) {
            return random.nextInt(50) == 0
                    ? (random.nextBoolean() ? 1 : -1) * (100000 + random.nextInt(2))
                    : near(random, reach);
        }
        if (kind == 17) {
            return random.nextInt(slow.route.size() + 1);
        }
        return random.nextInt(Math.max(1, slow.points.size()) + 1);
    }

    private static void call(
            PointDesk d, Slow s, int kind, int a, int b, int c, String run) {
        String name = run + ": ";
        int what = Math.floorMod(a, 7) - 1;
        switch (kind) {
            case 0: compare(name + "add(" + a + ", " + b + ")",
                    () -> d.add(a, b), () -> s.add(a, b)); break;
            case 1: compare(name + "clear()", d::clear, s::clear); break;
            case 2: compare(name + "count(" + what + ")",
                    () -> d.count(what), () -> s.count(what)); break;
            case 3: compare(name + "at(" + a + ", " + c + ")",
                    () -> d.at(a, c), () -> s.at(a, c)); break;
            case 4: compare(name + "corner(" + a + ")",
                    () -> d.corner(a), () -> s.corner(a)); break;
            case 5: compare(name + "area()", d::area, s::area); break;
            case 6: compare(name + "layer(" + a + ")", () -> d.layer(a), () -> s.layer(a)); break;
            case 7: compare(name + "pair(" + c + ")", () -> d.pair(c), () -> s.pair(c)); break;
            case 8: compare(name + "distance(" + a + ", " + b + ")",
                    () -> d.distance(a, b), () -> s.distance(a, b)); break;
            case 9: compare(name + "best(" + c + ")", () -> d.best(c), () -> s.best(c)); break;
            case 10: compare(name + "side(" + a + ", " + c + ")",
                    () -> d.side(a, c), () -> s.side(a, c)); break;
            case 11: compare(name + "where(" + a + ", " + b + ")",
                    () -> d.where(a, b), () -> s.where(a, b)); break;
            case 12: compare(name + "nearest(" + a + ", " + b + ")",
                    () -> d.nearest(a, b), () -> s.nearest(a, b)); break;
            case 13: compare(name + "beside(" + a + ", " + b + ", " + c + ")",
                    () -> d.beside(a, b, c), () -> s.beside(a, b, c)); break;
            case 14: compare(name + "go(" + a + ")", () -> d.go(a), () -> s.go(a)); break;
            case 15: compare(name + "stop()", d::stop, s::stop); break;
            case 16: compare(name + "place(" + a + ")", () -> d.place(a), () -> s.place(a)); break;
            case 17: compare(name + "turn(" + a + ", " + b + ")", () -> {
                d.turn(a, b);
                return 0;
            }, () -> s.turn(a, b)); break;
            case 18: compare(name + "crossings()", d::crossings, s::crossings); break;
            case 19: compare(name + "crossing(" + a + ")",
                    () -> d.crossing(a), () -> s.crossing(a)); break;
            case 20: compare(name + "simple()", d::simple, s::simple); break;
            case 21: compare(name + "round()", d::round, s::round); break;
            case 22: compare(name + "inside(" + a + ", " + b + ")",
                    () -> d.inside(a, b), () -> s.inside(a, b)); break;
            case 23: compare(name + "triangle(" + a + ")",
                    () -> d.triangle(a), () -> s.triangle(a)); break;
            case 24: compare(name + "check()", d::check, () -> 1); break;
            default: compare(name + "count(" + c + ")", () -> d.count(c), () -> s.count(c)); break;
        }
    }

    // ---- runs with a route that is made simple

    private static void routeRun(Random random, int reach, int run) {
        int places = 3 + random.nextInt(38);
        PointDesk desk = new PointDesk();
        Slow slow = new Slow();
        Set<List<Integer>> taken = new HashSet<>();
        for (int i = 0; i < 60 && taken.size() < places; i++) {
            int x = near(random, reach);
            int y = near(random, reach);
            if (taken.add(Arrays.asList(x, y))) {
                slow.add(x, y);
            }
        }
        for (int i = 0; i < Math.min(40, slow.points.size()); i++) {
            slow.go(i);
        }
        untangle(slow, random);
        if (random.nextBoolean()) {
            Collections.reverse(slow.route);
        }
        Collections.rotate(slow.route, random.nextInt(40));
        for (long[] p : slow.points) {
            desk.add((int) p[0], (int) p[1]);
        }
        for (int p : slow.route) {
            desk.go(p);
        }
        compareRoute(desk, slow, "route " + run);
        for (int i = 0; i < 60; i++) {
            int x = near(random, reach);
            int y = near(random, reach);
            compare("route " + run + ": inside(" + x + ", " + y + ")",
                    () -> desk.inside(x, y), () -> slow.inside(x, y));
        }
        for (int p = 0; p < slow.points.size(); p++) {
            int x = slow.at(p, 0);
            int y = slow.at(p, 1);
            compare("route " + run + ": inside at " + p,
                    () -> desk.inside(x, y), () -> slow.inside(x, y));
        }
    }

    /** Turning the way between two sides that cross makes the route shorter, so this ends. */
    private static void untangle(Slow slow, Random random) {
        for (int i = 0; i < 400; i++) {
            List<Integer> crossings = slow.crossingList();
            if (crossings.isEmpty()) {
                return;
            }
            int pair = crossings.get(random.nextInt(crossings.size()));
            slow.turn(pair / 64 + 1, pair % 64);
        }
    }

    // ---- runs with hulls whose best sides are nearly or wholly alike

    private static void sidesRun(Random random, int run) {
        PointDesk desk = new PointDesk();
        Slow slow = new Slow();
        long[][] corners = run % 2 == 0 ? trapezoid(random) : symmetric(random);
        for (long[] p : corners) {
            call(desk, slow, 0, (int) p[0], (int) p[1], 0, "sides " + run);
        }
        for (int what = 0; what < 2; what++) {
            call(desk, slow, 9, 0, 0, what, "sides " + run);
        }
        for (int i = 0; i < corners.length; i++) {
            call(desk, slow, 4, i, 0, 0, "sides " + run);
            for (int what = 0; what < 3; what++) {
                call(desk, slow, 10, i, 0, what, "sides " + run);
            }
        }
    }

    /** Two sides that are parallel tie as the thinnest, with heights and lengths that differ. */
    private static long[][] trapezoid(Random random) {
        long dx = 1 + random.nextInt(30000);
        long dy = random.nextInt(30001) - 15000;
        int longer = 2 + random.nextInt(2);
        long shiftX = random.nextInt(20000);
        long shiftY = 1 + random.nextInt(20000);
        long[][] found = {{-40000, -50000}, {0, 0}, {0, 0}, {0, 0}};
        found[1] = new long[] {found[0][0] + longer * dx, found[0][1] + longer * dy};
        found[2] = new long[] {found[0][0] + shiftX, found[0][1] + shiftY};
        found[3] = new long[] {found[2][0] + dx, found[2][1] + dy};
        return found;
    }

    private static long[][] symmetric(Random random) {
        List<long[]> found = new ArrayList<>();
        for (int i = 0; i < 3 + random.nextInt(4); i++) {
            int x = near(random, 100000);
            int y = near(random, 100000);
            found.add(new long[] {x, y});
            found.add(new long[] {-x, -y});
            found.add(new long[] {-y, x});
            found.add(new long[] {y, -x});
        }
        return found.toArray(new long[0][]);
    }
}
