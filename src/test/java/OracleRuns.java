import java.math.BigInteger;
import java.util.ArrayList;
import java.util.Arrays;
import java.util.Collections;
import java.util.HashSet;
import java.util.List;
import java.util.Random;
import java.util.Set;

/**
 * Runs of calls from a fixed seed, each answer compared with that of a slow second program which
 * follows the words of the document one by one and shares no way of working with the class.
 */
public final class OracleRuns {
    private static final int[] ODD =
            {-1, 2, 3, 7, 40, 60, 64, Integer.MAX_VALUE, Integer.MIN_VALUE};
    private static final int CALLS_OF_AN_OBJECT = 512;

    private static int wrong = 0;
    private static long compared = 0;

    public static void main(String[] args) {
        Random random = new Random(20261115L);
        int[] reaches = {1, 2, 3, 5, 9, 30, 1000, 100000};
        for (int run = 0; run < 640 && wrong < 20; run++) {
            mixedRun(random, reaches[run % reaches.length], run);
        }
        for (int run = 0; run < 640 && wrong < 20; run++) {
            routeRun(random, reaches[2 + run % (reaches.length - 2)], run);
        }
        for (int run = 0; run < 400 && wrong < 20; run++) {
            sidesRun(random, run);
        }
        System.out.println(compared + " answers compared, " + wrong + " not alike");
        if (wrong != 0) {
            System.exit(1);
        }
    }

    private interface Call {
        long run();
    }

    private static String answer(Call call) {
        try {
            return Long.toString(call.run());
        } catch (RuntimeException e) {
            return "throws." + e.getClass().getSimpleName();
        }
    }

    private static void compare(String name, Call got, Call want) {
        compared++;
        String mine = answer(got);
        String due = answer(want);
        if (!mine.equals(due)) {
            wrong++;
            System.out.println(name + " answered " + mine + ", due is " + due);
        }
    }

    // ---- runs of all kinds of calls

    private static void mixedRun(Random random, int reach, int run) {
        PointDesk desk = new PointDesk();
        Slow slow = new Slow();
        int first = random.nextInt(62);
        for (int i = 0; i < first; i++) {
            call(desk, slow, 0, near(random, reach), near(random, reach), 0, "mixed " + run);
        }
        for (int i = first; i < CALLS_OF_AN_OBJECT; i++) {
            int kind = random.nextInt(60) == 0 ? 1 : random.nextInt(26);
            if (kind == 1 && random.nextInt(6) != 0) {
                kind = 14;
            }
            int a = argument(random, slow, kind, reach);
            int b = argument(random, slow, kind, reach);
            call(desk, slow, kind, a, b, random.nextInt(5) - 2, "mixed " + run + " call " + i);
        }
    }

    private static int near(Random random, int reach) {
        return random.nextInt(2 * reach + 1) - reach;
    }

    private static int argument(Random random, Slow slow, int kind, int reach) {
        if (random.nextInt(25) == 0) {
            return ODD[random.nextInt(ODD.length)];
        }
        boolean isPlace = kind == 0 || kind == 11 || kind == 12 || kind == 22;
        if (isPlace) {
            return random.nextInt(50) == 0
                    ? (random.nextBoolean() ? 1 : -1) * (100000 + random.nextInt(2))
                    : near(random, reach);
        }
        if (kind == 17) {
            return random.nextInt(slow.route.size() + 1);
        }
        return random.nextInt(Math.max(1, slow.points.size()) + 1);
    }

    private static void call(
            PointDesk d, Slow s, int kind, int a, int b, int c, String run) {
        String name = run + ": ";
        int what = Math.floorMod(a, 7) - 1;
        switch (kind) {
            case 0: compare(name + "add(" + a + ", " + b + ")",
                    () -> d.add(a, b), () -> s.add(a, b)); break;
            case 1: compare(name + "clear()", d::clear, s::clear); break;
            case 2: compare(name + "count(" + what + ")",
                    () -> d.count(what), () -> s.count(what)); break;
            case 3: compare(name + "at(" + a + ", " + c + ")",
                    () -> d.at(a, c), () -> s.at(a, c)); break;
            case 4: compare(name + "corner(" + a + ")",
                    () -> d.corner(a), () -> s.corner(a)); break;
            case 5: compare(name + "area()", d::area, s::area); break;
            case 6: compare(name + "layer(" + a + ")", () -> d.layer(a), () -> s.layer(a)); break;
            case 7: compare(name + "pair(" + c + ")", () -> d.pair(c), () -> s.pair(c)); break;
            case 8: compare(name + "distance(" + a + ", " + b + ")",
                    () -> d.distance(a, b), () -> s.distance(a, b)); break;
            case 9: compare(name + "best(" + c + ")", () -> d.best(c), () -> s.best(c)); break;
            case 10: compare(name + "side(" + a + ", " + c + ")",
                    () -> d.side(a, c), () -> s.side(a, c)); break;
            case 11: compare(name + "where(" + a + ", " + b + ")",
                    () -> d.where(a, b), () -> s.where(a, b)); break;
            case 12: compare(name + "nearest(" + a + ", " + b + ")",
                    () -> d.nearest(a, b), () -> s.nearest(a, b)); break;
            case 13: compare(name + "beside(" + a + ", " + b + ", " + c + ")",
                    () -> d.beside(a, b, c), () -> s.beside(a, b, c)); break;
            case 14: compare(name + "go(" + a + ")", () -> d.go(a), () -> s.go(a)); break;
            case 15: compare(name + "stop()", d::stop, s::stop); break;
            case 16: compare(name + "place(" + a + ")", () -> d.place(a), () -> s.place(a)); break;
            case 17: compare(name + "turn(" + a + ", " + b + ")", () -> {
                d.turn(a, b);
                return 0;
            }, () -> s.turn(a, b)); break;
            case 18: compare(name + "crossings()", d::crossings, s::crossings); break;
            case 19: compare(name + "crossing(" + a + ")",
                    () -> d.crossing(a), () -> s.crossing(a)); break;
            case 20: compare(name + "simple()", d::simple, s::simple); break;
            case 21: compare(name + "round()", d::round, s::round); break;
            case 22: compare(name + "inside(" + a + ", " + b + ")",
                    () -> d.inside(a, b), () -> s.inside(a, b)); break;
            case 23: compare(name + "triangle(" + a + ")",
                    () -> d.triangle(a), () -> s.triangle(a)); break;
            case 24: compare(name + "check()", d::check, () -> 1); break;
            default: compare(name + "count(" + c + ")", () -> d.count(c), () -> s.count(c)); break;
        }
    }

    // ---- runs with a route that is made simple

    private static void routeRun(Random random, int reach, int run) {
        int places = 3 + random.nextInt(38);
        PointDesk desk = new PointDesk();
        Slow slow = new Slow();
        Set<List<Integer>> taken = new HashSet<>();
        for (int i = 0; i < 60 && taken.size() < places; i++) {
            int x = near(random, reach);
            int y = near(random, reach);
            if (taken.add(Arrays.asList(x, y))) {
                slow.add(x, y);
            }
        }
        for (int i = 0; i < Math.min(40, slow.points.size()); i++) {
            slow.go(i);
        }
        untangle(slow, random);
        if (random.nextBoolean()) {
            Collections.reverse(slow.route);
        }
        Collections.rotate(slow.route, random.nextInt(40));
        for (long[] p : slow.points) {
            desk.add((int) p[0], (int) p[1]);
        }
        for (int p : slow.route) {
            desk.go(p);
        }
        compareRoute(desk, slow, "route " + run);
        for (int i = 0; i < 60; i++) {
            int x = near(random, reach);
            int y = near(random, reach);
            compare("route " + run + ": inside(" + x + ", " + y + ")",
                    () -> desk.inside(x, y), () -> slow.inside(x, y));
        }
        for (int p = 0; p < slow.points.size(); p++) {
            int x = slow.at(p, 0);
            int y = slow.at(p, 1);
            compare("route " + run + ": inside at " + p,
                    () -> desk.inside(x, y), () -> slow.inside(x, y));
        }
    }

    private static void compareRoute(PointDesk desk, Slow slow, String name) {
        compare(name + ": simple()", desk::simple, slow::simple);
        compare(name + ": crossings()", desk::crossings, slow::crossings);
        compare(name + ": round()", desk::round, slow::round);
        List<Integer> triangles = slow.triangles();
        for (int i = 0; i <= triangles.size(); i++) {
            int k = i;
            compare(name + ": triangle(" + k + ")", () -> desk.triangle(k),
                    () -> k < triangles.size() ? triangles.get(k) : -1);
        }
        List<Integer> crossings = slow.crossingList();
        for (int i = 0; i <= crossings.size(); i++) {
            int k = i;
            compare(name + ": crossing(" + k + ")", () -> desk.crossing(k),
                    () -> k < crossings.size() ? crossings.get(k) : -1);
        }
        compare(name + ": check()", desk::check, () -> 1);
    }

    /** Turning the way between two sides that cross makes the route shorter, so this ends. */
    private static void untangle(Slow slow, Random random) {
        for (int i = 0; i < 400; i++) {
            List<Integer> crossings = slow.crossingList();
            if (crossings.isEmpty()) {
                return;
            }
            int pair = crossings.get(random.nextInt(crossings.size()));
            slow.turn(pair / 64 + 1, pair % 64);
        }
    }

    // ---- runs with hulls whose best sides are nearly or wholly alike

    private static void sidesRun(Random random, int run) {
        PointDesk desk = new PointDesk();
        Slow slow = new Slow();
        long[][] corners = run % 2 == 0 ? trapezoid(random) : symmetric(random);
        for (long[] p : corners) {
            call(desk, slow, 0, (int) p[0], (int) p[1], 0, "sides " + run);
        }
        for (int what = 0; what < 2; what++) {
            call(desk, slow, 9, 0, 0, what, "sides " + run);
        }
        for (int i = 0; i < corners.length; i++) {
            call(desk, slow, 4, i, 0, 0, "sides " + run);
            for (int what = 0; what < 3; what++) {
                call(desk, slow, 10, i, 0, what, "sides " + run);
            }
        }
    }

    /** Two sides that are parallel tie as the thinnest, with heights and lengths that differ. */
    private static long[][] trapezoid(Random random) {
        long dx = 1 + random.nextInt(30000);
        long dy = random.nextInt(30001) - 15000;
        int longer = 2 + random.nextInt(2);
        long shiftX = random.nextInt(20000);
        long shiftY = 1 + random.nextInt(20000);
        long[][] found = {{-40000, -50000}, {0, 0}, {0, 0}, {0, 0}};
        found[1] = new long[] {found[0][0] + longer * dx, found[0][1] + longer * dy};
        found[2] = new long[] {found[0][0] + shiftX, found[0][1] + shiftY};
        found[3] = new long[] {found[2][0] + dx, found[2][1] + dy};
        return found;
    }

    private static long[][] symmetric(Random random) {
        List<long[]> found = new ArrayList<>();
        for (int i = 0; i < 3 + random.nextInt(4); i++) {
            int x = near(random, 100000);
            int y = near(random, 100000);
            found.add(new long[] {x, y});
            found.add(new long[] {-x, -y});
            found.add(new long[] {-y, x});
            found.add(new long[] {y, -x});
        }
        return found.toArray(new long[0][]);
    }

    /** The document, word by word. */
    private static final class Slow {
        final List<long[]> points = new ArrayList<>();
        final List<Integer> route = new ArrayList<>();

        static long c(long[] a, long[] b, long[] p) {
            return (b[0] - a[0]) * (p[1] - a[1]) - (b[1] - a[1]) * (p[0] - a[0]);
        }

        static long d(long[] a, long[] b) {
            return (a[0] - b[0]) * (a[0] - b[0]) + (a[1] - b[1]) * (a[1] - b[1]);
        }

        static boolean same(long[] a, long[] b) {
            return a[0] == b[0] && a[1] == b[1];
        }

        static boolean between(long[] a, long[] b, long[] p) {
            return c(a, b, p) == 0
                    && Math.min(a[0], b[0]) <= p[0] && p[0] <= Math.max(a[0], b[0])
                    && Math.min(a[1], b[1]) <= p[1] && p[1] <= Math.max(a[1], b[1]);
        }

        static boolean fits(int x, int y) {
            return Math.abs((long) x) <= 100000 && Math.abs((long) y) <= 100000;
        }

        static void refuse(int x, int y) {
            if (!fits(x, y)) {
                throw new IllegalArgumentException();
            }
        }

        long[] point(int i) {
            if (i < 0 || i >= points.size()) {
                throw new IndexOutOfBoundsException();
            }
            return points.get(i);
        }

        int add(int x, int y) {
            if (!fits(x, y) || points.size() == 60) {
                return -1;
            }
            points.add(new long[] {x, y});
            return points.size() - 1;
        }

        int clear() {
            int had = points.size();
            points.clear();
            route.clear();
            return had;
        }

        int count(int what) {
            switch (what) {
                case 0: return points.size();
                case 1: return corners().size();
                case 2: return Arrays.stream(layers()).max().orElse(-1) + 1;
                case 3: return route.size();
                case 4: return sets(2);
                case 5: return sets(3);
                default: return -1;
            }
        }

        int sets(int of) {
            int found = 0;
            for (int i = 0; i < points.size(); i++) {
                for (int k = 0; k < i; k++) {
                    if (of == 2) {
                        found += same(points.get(i), points.get(k)) ? 1 : 0;
                        continue;
                    }
                    for (int m = 0; m < k; m++) {
                        found += c(points.get(i), points.get(k), points.get(m)) == 0 ? 1 : 0;
                    }
                }
            }
            return found;
        }

        int at(int point, int what) {
            long[] p = point(point);
            if (what < 0 || what > 1) {
                throw new IllegalArgumentException();
            }
            return (int) p[what];
        }

        /** Two chains over the places sorted by y, then x. */
        List<Integer> corners() {
            List<Integer> order = new ArrayList<>();
            for (int i = 0; i < points.size(); i++) {
                boolean isFirst = true;
                for (int k = 0; k < i; k++) {
                    isFirst &= !same(points.get(i), points.get(k));
                }
                if (isFirst) {
                    order.add(i);
                }
            }
            order.sort((i, k) -> {
                int byY = Long.compare(points.get(i)[1], points.get(k)[1]);
                return byY != 0 ? byY : Long.compare(points.get(i)[0], points.get(k)[0]);
            });
            if (order.size() < 3) {
                return order;
            }
            List<Integer> up = chain(order);
            Collections.reverse(order);
            List<Integer> down = chain(order);
            up.remove(up.size() - 1);
            down.remove(down.size() - 1);
            up.addAll(down);
            return up;
        }

        List<Integer> chain(List<Integer> order) {
            List<Integer> found = new ArrayList<>();
            for (int p : order) {
                while (found.size() > 1
                        && c(points.get(found.get(found.size() - 2)),
                                points.get(found.get(found.size() - 1)), points.get(p)) <= 0) {
                    found.remove(found.size() - 1);
                }
                found.add(p);
            }
            return found;
        }

        int corner(int i) {
            List<Integer> corners = corners();
            return i >= 0 && i < corners.size() ? corners.get(i) : -1;
        }

        long area() {
            List<Integer> corners = corners();
            long sum = 0;
            for (int i = 0; i < corners.size(); i++) {
                long[] a = points.get(corners.get(i));
                long[] b = points.get(corners.get((i + 1) % corners.size()));
                sum += (b[0] - a[0]) * (a[1] + b[1]);
            }
            return Math.abs(sum);
        }

        /** On the border: a line through the place and another has none on one of its hands. */
        static boolean isOnBorder(long[] p, List<long[]> all) {
            boolean isAlone = true;
            for (long[] q : all) {
                if (same(p, q)) {
                    continue;
                }
                isAlone = false;
                boolean left = false;
                boolean right = false;
                for (long[] r : all) {
                    left |= c(p, q, r) > 0;
                    right |= c(p, q, r) < 0;
                }
                if (!left || !right) {
                    return true;
                }
            }
            return isAlone;
        }

        int[] layers() {
            int[] found = new int[points.size()];
            Arrays.fill(found, -1);
            for (int level = 0; level < found.length; level++) {
                List<long[]> rest = new ArrayList<>();
                for (int i = 0; i < found.length; i++) {
                    if (found[i] < 0) {
                        rest.add(points.get(i));
                    }
                }
                for (int i = 0; i < found.length; i++) {
                    if (found[i] < 0 && isOnBorder(points.get(i), rest)) {
                        found[i] = level;
                    }
                }
            }
            return found;
        }

        int layer(int point) {
            return point >= 0 && point < points.size() ? layers()[point] : -1;
        }

        int pair(int way) {
            if (way < 0 || way > 1) {
                return -1;
            }
            int found = -1;
            long best = 0;
            for (int i = points.size() - 1; i >= 0; i--) {
                for (int k = points.size() - 1; k > i; k--) {
                    long tried = (way == 0 ? 1 : -1) * d(points.get(i), points.get(k));
                    if (found < 0 || tried >= best) {
                        found = 64 * i + k;
                        best = tried;
                    }
                }
            }
            return found;
        }

        long distance(int i, int k) {
            return d(point(i), point(k));
        }

        long[] measures(int i) {
            List<Integer> corners = corners();
            long[] a = points.get(corners.get(i));
            long[] b = points.get(corners.get((i + 1) % corners.size()));
            long height = Long.MIN_VALUE;
            long least = Long.MAX_VALUE;
            long greatest = Long.MIN_VALUE;
            for (int corner : corners) {
                long[] p = points.get(corner);
                height = Math.max(height, c(a, b, p));
                long along = (b[0] - a[0]) * (p[0] - a[0]) + (b[1] - a[1]) * (p[1] - a[1]);
                least = Math.min(least, along);
                greatest = Math.max(greatest, along);
            }
            return new long[] {height, d(a, b), greatest - least};
        }

        int best(int what) {
            int sides = corners().size();
            if (what < 0 || what > 1 || sides < 3) {
                return -1;
            }
            int found = 0;
            long[] best = measures(0);
            for (int i = 1; i < sides; i++) {
                long[] tried = measures(i);
                if (product(tried, what, best[1]).compareTo(product(best, what, tried[1])) < 0) {
                    found = i;
                    best = tried;
                }
            }
            return found;
        }

        static BigInteger product(long[] side, int what, long length) {
            return BigInteger.valueOf(side[0])
                    .multiply(BigInteger.valueOf(what == 0 ? side[0] : side[2]))
                    .multiply(BigInteger.valueOf(length));
        }

        long side(int i, int what) {
            int sides = corners().size();
            if (sides < 3 || i < 0 || i >= sides) {
                throw new IndexOutOfBoundsException();
            }
            if (what < 0 || what > 2) {
                throw new IllegalArgumentException();
            }
            return measures(i)[what];
        }

        /** Seen as one more point: not on the border, it is within; else it may be between two. */
        int where(int x, int y) {
            refuse(x, y);
            if (points.isEmpty()) {
                return -1;
            }
            long[] p = {x, y};
            List<long[]> all = new ArrayList<>(points);
            all.add(p);
            if (!isOnBorder(p, all)) {
                return 1;
            }
            for (long[] a : points) {
                for (long[] b : points) {
                    if (between(a, b, p)) {
                        return 0;
                    }
                }
            }
            return -1;
        }

        int nearest(int x, int y) {
            refuse(x, y);
            int found = -1;
            long[] p = {x, y};
            for (int i = points.size() - 1; i >= 0; i--) {
                if (found < 0 || d(points.get(i), p) <= d(points.get(found), p)) {
                    found = i;
                }
            }
            return found;
        }

        int beside(int i, int k, int way) {
            long[] a = point(i);
            long[] b = point(k);
            if (Math.abs((long) way) > 1 || same(a, b)) {
                return -1;
            }
            int found = 0;
            for (long[] p : points) {
                found += Long.signum(c(a, b, p)) == way ? 1 : 0;
            }
            return found;
        }

        int go(int point) {
            if (point < 0 || point >= points.size() || route.size() == 40) {
                return -1;
            }
            route.add(point);
            return route.size();
        }

        int stop() {
            int had = route.size();
            route.clear();
            return had;
        }

        int place(int i) {
            return i >= 0 && i < route.size() ? route.get(i) : -1;
        }

        int turn(int i, int k) {
            if (i < 0 || k >= route.size() || i > k) {
                throw new IndexOutOfBoundsException();
            }
            Collections.reverse(route.subList(i, k + 1));
            return 0;
        }

        long[] on(int place) {
            return points.get(route.get(Math.floorMod(place, route.size())));
        }

        List<Integer> crossingList() {
            List<Integer> found = new ArrayList<>();
            int n = route.size();
            for (int i = 0; n >= 3 && i < n; i++) {
                for (int k = i + 1; k < n; k++) {
                    long[] shared = k == i + 1 ? on(k) : i == 0 && k == n - 1 ? on(0) : null;
                    if (sharePlace(on(i), on(i + 1), on(k), on(k + 1), shared)) {
                        found.add(64 * i + k);
                    }
                }
            }
            return found;
        }

        /** Whether two segments share a place other than the one given (which may be null). */
        static boolean sharePlace(long[] a, long[] b, long[] e, long[] f, long[] but) {
            long across = (b[0] - a[0]) * (f[1] - e[1]) - (b[1] - a[1]) * (f[0] - e[0]);
            if (across == 0) {
                // Segments that are parallel, or only a place, share no place or an end of one.
                long[][] ends = {a, b, e, f};
                for (long[] p : ends) {
                    if (between(a, b, p) && between(e, f, p) && (but == null || !same(p, but))) {
                        return true;
                    }
                }
                return false;
            }
            // a + t (b - a) = e + u (f - e), both t and u as parts of across.
            long t = (e[0] - a[0]) * (f[1] - e[1]) - (e[1] - a[1]) * (f[0] - e[0]);
            long u = (e[0] - a[0]) * (b[1] - a[1]) - (e[1] - a[1]) * (b[0] - a[0]);
            if (across < 0) {
                t = -t;
                u = -u;
                across = -across;
            }
            // Lines that are not parallel share one place: between neighbours it is the given one.
            return but == null && t >= 0 && t <= across && u >= 0 && u <= across;
        }

        int crossings() {
            return crossingList().size();
        }

        int crossing(int i) {
            List<Integer> found = crossingList();
            return i >= 0 && i < found.size() ? found.get(i) : -1;
        }

        int simple() {
            Set<List<Long>> places = new HashSet<>();
            for (int i = 0; i < route.size(); i++) {
                places.add(Arrays.asList(on(i)[0], on(i)[1]));
            }
            return route.size() >= 3 && places.size() == route.size() && crossings() == 0 ? 1 : 0;
        }

        long round() {
            long sum = 0;
            for (int i = 0; route.size() >= 3 && i < route.size(); i++) {
                sum += on(i)[0] * on(i + 1)[1] - on(i + 1)[0] * on(i)[1];
            }
            return sum;
        }

        /** A place is within or on a route if it is so for one of the triangles. */
        int inside(int x, int y) {
            refuse(x, y);
            if (simple() == 0) {
                return -2;
            }
            long[] p = {x, y};
            for (int i = 0; i < route.size(); i++) {
                if (between(on(i), on(i + 1), p)) {
                    return 0;
                }
            }
            for (int triangle : triangles()) {
                if (holds(on(triangle / 4096), on(triangle / 64 % 64), on(triangle % 64), p)) {
                    return 1;
                }
            }
            return -1;
        }

        static boolean holds(long[] a, long[] b, long[] e, long[] p) {
            long whole = Math.abs(c(a, b, e));
            return Math.abs(c(a, b, p)) + Math.abs(c(b, e, p)) + Math.abs(c(e, a, p)) == whole;
        }

        List<Integer> triangles() {
            List<Integer> found = new ArrayList<>();
            if (simple() == 0) {
                return found;
            }
            List<Integer> left = new ArrayList<>();
            for (int i = 0; i < route.size(); i++) {
                left.add(i);
            }
            while (left.size() > 3) {
                int n = left.size();
                int ear = 0;
                while (!isEar(left, ear)) {
                    ear++;
                }
                found.add(4096 * left.get((ear + n - 1) % n) + 64 * left.get(ear)
                        + left.get((ear + 1) % n));
                left.remove(ear);
            }
            found.add(4096 * left.get(0) + 64 * left.get(1) + left.get(2));
            return found;
        }

        boolean isEar(List<Integer> left, int i) {
            int n = left.size();
            int before = left.get((i + n - 1) % n);
            int mine = left.get(i);
            int behind = left.get((i + 1) % n);
            if (Long.signum(c(on(before), on(mine), on(behind))) != Long.signum(round())) {
                return false;
            }
            for (int other : left) {
                if (other != before && other != mine && other != behind
                        && holds(on(before), on(mine), on(behind), on(other))) {
                    return false;
                }
            }
            return true;
        }

        int triangle(int i) {
            List<Integer> found = triangles();
            return i >= 0 && i < found.size() ? found.get(i) : -1;
        }
    }
}
