import java.math.BigInteger;
import java.util.ArrayList;
import java.util.Arrays;
import java.util.Collections;
import java.util.HashSet;
import java.util.List;
import java.util.Set;

/**
 * A slow second program that follows the words of the document one by one and shares no way of
 * working with the class.
 */
final class Slow {
    final List<long[]> points = new ArrayList<>();
    final List<Integer> route = new ArrayList<>();

    static long c(long[] a, long[] b, long[] p) {
        return (b[0] - a[0]) * (p[1] - a[1]) - (b[1] - a[1]) * (p[0] - a[0]);
    }

    static long d(long[] a, long[] b) {
        return (a[0] - b[0]) * (a[0] - b[0]) + (a[1] - b[1]) * (a[1] - b[1]);
    }

    static boolean same(long[] a, long[] b) {
        return a[0] == b[0] && a[1] == b[1];
    }

    static boolean between(long[] a, long[] b, long[] p) {
        return c(a, b, p) == 0
                && Math.min(a[0], b[0]) <= p[0] && p[0] <= Math.max(a[0], b[0])
                && Math.min(a[1], b[1]) <= p[1] && p[1] <= Math.max(a[1], b[1]);
    }

    static boolean fits(int x, int y) {
        return Math.abs((long) x) <= 100000 && Math.abs((long) y) <= 100000;
    }

    static void refuse(int x, int y) {
        if (!fits(x, y)) {
            throw new IllegalArgumentException();
        }
    }

    long[] point(int i) {
        if (i < 0 || i >= points.size()) {
            throw new IndexOutOfBoundsException();
        }
        return points.get(i);
    }

    int add(int x, int y) {
        if (!fits(x, y) || points.size() == 60) {
            return -1;
        }
        points.add(new long[] {x, y});
        return points.size() - 1;
    }

    int clear() {
        int had = points.size();
        points.clear();
        route.clear();
        return had;
    }

    int count(int what) {
        switch (what) {
            case 0: return points.size();
            case 1: return corners().size();
            case 2: return Arrays.stream(layers()).max().orElse(-1) + 1;
            case 3: return route.size();
            case 4: return sets(2);
            case 5: return sets(3);
            default: return -1;
        }
    }

    int sets(int of) {
        int found = 0;
        for (int i = 0; i < points.size(); i++) {
            for (int k = 0; k < i; k++) {
                if (of == 2) {
                    found += same(points.get(i), points.get(k)) ? 1 : 0;
                    continue;
                }
                for (int m = 0; m < k; m++) {
                    found += c(points.get(i), points.get(k), points.get(m)) == 0 ? 1 : 0;
                }
            }
        }
        return found;
    }

    int at(int point, int what) {
        long[] p = point(point);
        if (what < 0 || what > 1) {
            throw new IllegalArgumentException();
        }
        return (int) p[what];
    }

    /** Two chains over the places sorted by y, then x. */
    List<Integer> corners() {
        List<Integer> order = new ArrayList<>();
        for (int i = 0; i < points.size(); i++) {
            boolean isFirst = true;
            for (int k = 0; k < i; k++) {
                isFirst &= !same(points.get(i), points.get(k));
            }
            if (isFirst) {
                order.add(i);
            }
        }
        order.sort((i, k) -> {
            int byY = Long.compare(points.get(i)[1], points.get(k)[1]);
            return byY != 0 ? byY : Long.compare(points.get(i)[0], points.get(k)[0]);
        });
        if (order.size() < 3) {
            return order;
        }
        List<Integer> up = chain(order);
        Collections.reverse(order);
        List<Integer> down = chain(order);
        up.remove(up.size() - 1);
        down.remove(down.size() - 1);
        up.addAll(down);
        return up;
    }

    List<Integer> chain(List<Integer> order) {
        List<Integer> found = new ArrayList<>();
        for (int p : order) {
            while (found.size() > 1
                    && c(points.get(found.get(found.size() - 2)),
                            points.get(found.get(found.size() - 1)), points.get(p)) <= 0) {
                found.remove(found.size() - 1);
            }
            found.add(p);
        }
        return found;
    }

    int corner(int i) {
        List<Integer> corners = corners();
        return i >= 0 && i < corners.size() ? corners.get(i) : -1;
    }

    long area() {
        List<Integer> corners = corners();
        long sum = 0;
        for (int i = 0; i < corners.size(); i++) {
            long[] a = points.get(corners.get(i));
            long[] b = points.get(corners.get((i + 1) % corners.size()));
            sum += (b[0] - a[0]) * (a[1] + b[1]);
        }
        return Math.abs(sum);
    }

    /** On the border: a line through the place and another has none on one of its hands. */
    static boolean isOnBorder(long[] p, List<long[]> all) {
        boolean isAlone = true;
        for (long[] q : all) {
            if (same(p, q)) {
                continue;
            }
            isAlone = false;
            boolean left = false;
            boolean right = false;
            for (long[] r : all) {
                left |= c(p, q, r) > 0;
                right |= c(p, q, r) < 0;
            }
            if (!left || !right) {
                return true;
            }
        }
        return isAlone;
    }

    int[] layers() {
        int[] found = new int[points.size()];
        Arrays.fill(found, -1);
        for (int level = 0; level < found.length; level++) {
            List<long[]> rest = new ArrayList<>();
            for (int i = 0; i < found.length; i++) {
                if (found[i] < 0) {
                    rest.add(points.get(i));
                }
            }
            for (int i = 0; i < found.length; i++) {
                if (found[i] < 0 && isOnBorder(points.get(i), rest)) {
                    found[i] = level;
                }
            }
        }
        return found;
    }

    int layer(int point) {
        return point >= 0 && point < points.size() ? layers()[point] : -1;
    }

    int pair(int way) {
        if (way < 0 || way > 1) {
            return -1;
        }
        int found = -1;
        long best = 0;
        for (int i = points.size() - 1; i >= 0; i--) {
            for (int k = points.size() - 1; k > i; k--) {
                long tried = (way == 0 ? 1 : -1) * d(points.get(i), points.get(k));
                if (found < 0 || tried >= best) {
                    found = 64 * i + k;
                    best = tried;
                }
            }
        }
        return found;
    }

    long distance(int i, int k) {
        return d(point(i), point(k));
    }

    long[] measures(int i) {
        List<Integer> corners = corners();
        long[] a = points.get(corners.get(i));
        long[] b = points.get(corners.get((i + 1) % corners.size()));
        long height = Long.MIN_VALUE;
        long least = Long.MAX_VALUE;
        long greatest = Long.MIN_VALUE;
        for (int corner : corners) {
            long[] p = points.get(corner);
            height = Math.max(height, c(a, b, p));
            long along = (b[0] - a[0]) * (p[0] - a[0]) + (b[1] - a[1]) * (p[1] - a[1]);
            least = Math.min(least, along);
            greatest = Math.max(greatest, along);
        }
        return new long[] {height, d(a, b), greatest - least};
    }

    int best(int what) {
        int sides = corners().size();
        if (what < 0 || what > 1 || sides < 3) {
            return -1;
        }
        int found = 0;
        long[] best = measures(0);
        for (int i = 1; i < sides; i++) {
            long[] tried = measures(i);
            if (product(tried, what, best[1]).compareTo(product(best, what, tried[1])) < 0) {
                found = i;
                best = tried;
            }
        }
        return found;
    }

    static BigInteger product(long[] side, int what, long length) {
        return BigInteger.valueOf(side[0])
                .multiply(BigInteger.valueOf(what == 0 ? side[0] : side[2]))
                .multiply(BigInteger.valueOf(length));
    }

    long side(int i, int what) {
        int sides = corners().size();
        if (sides < 3 || i < 0 || i >= sides) {
            throw new IndexOutOfBoundsException();
        }
        if (what < 0 || what > 2) {
            throw new IllegalArgumentException();
        }
        return measures(i)[what];
    }

    /** Seen as one more point: not on the border, it is within; else it may be between two. */
    int where(int x, int y) {
        refuse(x, y);
        if (points.isEmpty()) {
            return -1;
        }
        long[] p = {x, y};
        List<long[]> all = new ArrayList<>(points);
        all.add(p);
        if (!isOnBorder(p, all)) {
            return 1;
        }
        for (long[] a : points) {
            for (long[] b : points) {
                if (between(a, b, p)) {
                    return 0;
                }
            }
        }
        return -1;
    }

    int nearest(int x, int y) {
        refuse(x, y);
        int found = -1;
        long[] p = {x, y};
        for (int i = points.size() - 1; i >= 0; i--) {
            if (found < 0 || d(points.get(i), p) <= d(points.get(found), p)) {
                found = i;
            }
        }
        return found;
    }

    int beside(int i, int k, int way) {
        long[] a = point(i);
        long[] b = point(k);
        if (Math.abs((long) way) > 1 || same(a, b)) {
            return -1;
        }
        int found = 0;
        for (long[] p : points) {
            found += Long.signum(c(a, b, p)) == way ? 1 : 0;
        }
        return found;
    }

    int go(int point) {
        if (point < 0 || point >= points.size() || route.size() == 40) {
            return -1;
        }
        route.add(point);
        return route.size();
    }

    int stop() {
        int had = route.size();
        route.clear();
        return had;
    }

    int place(int i) {
        return i >= 0 && i < route.size() ? route.get(i) : -1;
    }

    int turn(int i, int k) {
        if (i < 0 || k >= route.size() || i > k) {
            throw new IndexOutOfBoundsException();
        }
        Collections.reverse(route.subList(i, k + 1));
        return 0;
    }

    long[] on(int place) {
        return points.get(route.get(Math.floorMod(place, route.size())));
    }

    List<Integer> crossingList() {
        List<Integer> found = new ArrayList<>();
        int n = route.size();
        for (int i = 0; n >= 3 && i < n; i++) {
            for (int k = i + 1; k < n; k++) {
                long[] shared = k == i + 1 ? on(k) : i == 0 && k == n - 1 ? on(0) : null;
                if (sharePlace(on(i), on(i + 1), on(k), on(k + 1), shared)) {
                    found.add(64 * i + k);
                }
            }
        }
        return found;
    }

    /** Whether two segments share a place other than the one given (which may be null). */
    static boolean sharePlace(long[] a, long[] b, long[] e, long[] f, long[] but) {
        long across = (b[0] - a[0]) * (f[1] - e[1]) - (b[1] - a[1]) * (f[0] - e[0]);
        if (across == 0) {
            // Segments that are parallel, or only a place, share no place or an end of one.
            long[][] ends = {a, b, e, f};
            for (long[] p : ends) {
                if (between(a, b, p) && between(e, f, p) && (but == null || !same(p, but))) {
                    return true;
                }
            }
            return false;
        }
        // a + t (b - a) = e + u (f - e), both t and u as parts of across.
        long t = (e[0] - a[0]) * (f[1] - e[1]) - (e[1] - a[1]) * (f[0] - e[0]);
        long u = (e[0] - a[0]) * (b[1] - a[1]) - (e[1] - a[1]) * (b[0] - a[0]);
        if (across < 0) {
            t = -t;
            u = -u;
            across = -across;
        }
        // Lines that are not parallel share one place: between neighbours it is the given one.
        return but == null && t >= 0 && t <= across && u >= 0 && u <= across;
    }

    int crossings() {
        return crossingList().size();
    }

    int crossing(int i) {
        List<Integer> found = crossingList();
        return i >= 0 && i < found.size() ? found.get(i) : -1;
    }

    int simple() {
        Set<List<Long>> places = new HashSet<>();
        for (int i = 0; i < route.size(); i++) {
            places.add(Arrays.asList(on(i)[0], on(i)[1]));
        }
        return route.size() >= 3 && places.size() == route.size() && crossings() == 0 ? 1 : 0;
    }

    long round() {
        long sum = 0;
        for (int i = 0; route.size() >= 3 && i < route.size(); i++) {
            sum += on(i)[0] * on(i + 1)[1] - on(i + 1)[0] * on(i)[1];
        }
        return sum;
    }

    /** A place is within or on a route if it is so for one of the triangles. */
    int inside(int x, int y) {
        refuse(x, y);
        if (simple() == 0) {
            return -2;
        }
        long[] p = {x, y};
        for (int i = 0; i < route.size(); i++) {
            if (between(on(i), on(i + 1), p)) {
                return 0;
            }
        }
        for (int triangle : triangles()) {
            if (holds(on(triangle / 4096), on(triangle / 64 % 64), on(triangle % 64), p)) {
                return 1;
            }
        }
        return -1;
    }

    static boolean holds(long[] a, long[] b, long[] e, long[] p) {
        long whole = Math.abs(c(a, b, e));
        return Math.abs(c(a, b, p)) + Math.abs(c(b, e, p)) + Math.abs(c(e, a, p)) == whole;
    }

    List<Integer> triangles() {
        List<Integer> found = new ArrayList<>();
        if (simple() == 0) {
            return found;
        }
        List<Integer> left = new ArrayList<>();
        for (int i = 0; i < route.size(); i++) {
            left.add(i);
        }
        while (left.size() > 3) {
            int n = left.size();
            int ear = 0;
            while (!isEar(left, ear)) {
                ear++;
            }
            found.add(4096 * left.get((ear + n - 1) % n) + 64 * left.get(ear)
                    + left.get((ear + 1) % n));
            left.remove(ear);
        }
        found.add(4096 * left.get(0) + 64 * left.get(1) + left.get(2));
        return found;
    }

    boolean isEar(List<Integer> left, int i) {
        int n = left.size();
        int before = left.get((i + n - 1) % n);
        int mine = left.get(i);
        int behind = left.get((i + 1) % n);
        if (Long.signum(c(on(before), on(mine), on(behind))) != Long.signum(round())) {
            return false;
        }
        for (int other : left) {
            if (other != before && other != mine && other != behind
                    && holds(on(before), on(mine), on(behind), on(other))) {
                return false;
            }
        }
        return true;
    }

    int triangle(int i) {
        List<Integer> found = triangles();
        return i >= 0 && i < found.size() ? found.get(i) : -1;
    }
}
