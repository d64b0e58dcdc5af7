/**
 * Points of the plane with whole numbers, their hull and its layers, and one route from point to
 * point with its crossings and triangles.
 *
 * <p>Every row is made in a constructor and used again, because all calls of a run share one room.
 * What is dear to find (hull, layers, crossings, triangles) is found when it is first asked for and
 * kept until the points or the route change.
 */
public final class PointDesk {
    /** There is none. */
    public static final int NONE = -1;

    private static final int LARGEST = 100000;
    private static final int MOST_POINTS = 60;
    private static final int MOST_PLACES = 40;
    private static final int MOST_PAIRS_OF_SIDES = MOST_PLACES * (MOST_PLACES - 1) / 2;
    private static final int LEAST_SIDES = 3;
    private static final int FARTHEST = 0;
    private static final int NEAREST = 1;
    private static final int NOT_SIMPLE = -2;

    private final Points points;
    private final Hull hull;
    private final HullSides hullSides;
    private final Layers layers;
    private final Route route;
    private final Crossings sideCrossings;
    private final Triangles triangles;

    public PointDesk() {
        points = new Points();
        hull = new Hull(points);
        hullSides = new HullSides(points, hull);
        layers = new Layers(points);
        route = new Route(points);
        sideCrossings = new Crossings(points, route);
        triangles = new Triangles(points, route);
    }

    public int add(int x, int y) {
        if (!isInPlane(x, y) || points.size >= MOST_POINTS) {
            return NONE;
        }
        points.append(x, y);
        return points.size - 1;
    }

    public int clear() {
        int had = points.size;
        points.removeAll();
        route.removeAll();
        return had;
    }

    public int count(int what) {
        switch (what) {
            case 0:
                return points.size;
            case 1:
                hull.refresh();
                return hull.size;
            case 2:
                layers.refresh();
                return layers.size;
            case 3:
                return route.size;
            case 4:
                return points.pairsAtOnePlace();
            case 5:
                return points.threesOnOneLine();
            default:
                return NONE;
        }
    }

    public int at(int point, int what) throws IndexOutOfBoundsException, IllegalArgumentException {
        requirePoint(point);
        if (what != 0 && what != 1) {
            throw new IllegalArgumentException("no such number of a point");
        }
        return what == 0 ? points.xs[point] : points.ys[point];
    }

    public int corner(int i) {
        hull.refresh();
        return i >= 0 && i < hull.size ? hull.corners[i] : NONE;
    }

    public long area() {
        hull.refresh();
        return hull.twiceArea();
    }

    public int layer(int point) {
        if (!points.has(point)) {
            return NONE;
        }
        layers.refresh();
        return layers.layerOf[point];
    }

    public int pair(int way) {
        if (points.size < 2 || (way != FARTHEST && way != NEAREST)) {
            return NONE;
        }
        int found = 1;
        long foundDistance = points.squaredDistance(0, 1);
        for (int i = 0; i < points.size; i++) {
            for (int k = i + 1; k < points.size; k++) {
                long tried = points.squaredDistance(i, k);
                if (way == FARTHEST ? tried > foundDistance : tried < foundDistance) {
                    found = 64 * i + k;
                    foundDistance = tried;
                }
            }
        }
        return found;
    }

    public long distance(int i, int k) throws IndexOutOfBoundsException {
        requirePoint(i);
        requirePoint(k);
        return points.squaredDistance(i, k);
    }

    public int best(int what) {
        hull.refresh();
        if (hull.size < LEAST_SIDES || (what != HullSides.THINNEST && what != HullSides.BOX)) {
            return NONE;
        }
        return hullSides.firstLeast(what);
    }

    public long side(int i, int what) throws IndexOutOfBoundsException, IllegalArgumentException {
        hull.refresh();
        if (hull.size < LEAST_SIDES || i < 0 || i >= hull.size) {
            throw new IndexOutOfBoundsException("no such side of the hull");
        }
        switch (what) {
            case 0:
                return hullSides.height(i);
            case 1:
                return hullSides.length(i);
            case 2:
                return hullSides.span(i);
            default:
                throw new IllegalArgumentException("no such number of a side");
        }
    }

    public int where(int x, int y) throws IllegalArgumentException {
        requireInPlane(x, y);
        hull.refresh();
        points.ask(x, y);
        return hull.holds(Points.ASKED);
    }

    public int nearest(int x, int y) throws IllegalArgumentException {
        requireInPlane(x, y);
        if (points.size == 0) {
            return NONE;
        }
        points.ask(x, y);
        int found = 0;
        for (int i = 1; i < points.size; i++) {
            if (points.squaredDistance(i, Points.ASKED)
                    < points.squaredDistance(found, Points.ASKED)) {
                found = i;
            }
        }
        return found;
    }

    public int beside(int i, int k, int way) throws IndexOutOfBoundsException {
        requirePoint(i);
        requirePoint(k);
        if (way < -1 || way > 1 || points.areAtOnePlace(i, k)) {
            return NONE;
        }
        int found = 0;
        for (int p = 0; p < points.size; p++) {
            if (points.handOf(i, k, p) == way) {
                found++;
            }
        }
        return found;
    }

    public int go(int point) {
        if (!points.has(point) || route.size >= MOST_PLACES) {
            return NONE;
        }
        route.append(point);
        return route.size;
    }

    public int stop() {
        int had = route.size;
        route.removeAll();
        return had;
    }

    public int place(int i) {
        return i >= 0 && i < route.size ? route.places[i] : NONE;
    }

    public void turn(int i, int k) throws IndexOutOfBoundsException {
        if (i < 0 || i > k || k >= route.size) {
            throw new IndexOutOfBoundsException("no such places of the route");
        }
        route.reverse(i, k);
    }

    public int crossings() {
        sideCrossings.refresh();
        return sideCrossings.size;
    }

    public int crossing(int i) {
        sideCrossings.refresh();
        return i >= 0 && i < sideCrossings.size ? sideCrossings.pairs[i] : NONE;
    }

    public int simple() {
        return isRouteSimple() ? 1 : 0;
    }

    public long round() {
        return route.sumRound();
    }

    public int inside(int x, int y) throws IllegalArgumentException {
        requireInPlane(x, y);
        if (!isRouteSimple()) {
            return NOT_SIMPLE;
        }
        points.ask(x, y);
        return route.holds(Points.ASKED);
    }

    public int triangle(int i) {
        triangles.refresh(isRouteSimple());
        return i >= 0 && i < triangles.size ? triangles.cut[i] : NONE;
    }

    public int check() {
        hull.refresh();
        boolean isRight = hull.holdsAllPoints() && hull.twiceArea() == hull.sumRound();
        if (isRight && isRouteSimple()) {
            triangles.refresh(true);
            isRight = triangles.fillTheRoute();
        }
        return isRight ? 1 : 0;
    }

    private boolean isRouteSimple() {
        sideCrossings.refresh();
        return sideCrossings.routeIsSimple;
    }

    private void requirePoint(int point) {
        if (!points.has(point)) {
            throw new IndexOutOfBoundsException("no such point");
        }
    }

    private static void requireInPlane(int x, int y) {
        if (!isInPlane(x, y)) {
            throw new IllegalArgumentException("x or y is too large");
        }
    }

    private static boolean isInPlane(int x, int y) {
        return x >= -LARGEST && x <= LARGEST && y >= -LARGEST && y <= LARGEST;
    }

    /** The points, and how three or four of them lie; all others name points by their numbers. */
    private static final class Points {
        // One slot behind the points holds the place that a call asks about, so that it can be
        // measured just as points are.
        static final int ASKED = MOST_POINTS;

        final int[] xs = new int[MOST_POINTS + 1];
        final int[] ys = new int[MOST_POINTS + 1];
        int size = 0;
        // Told apart by those who keep what they found: another version means to find it anew.
        int version = 0;

        boolean has(int point) {
            return point >= 0 && point < size;
        }

        void append(int x, int y) {
            xs[size] = x;
            ys[size] = y;
            size++;
            version++;
        }

        void removeAll() {
            size = 0;
            version++;
        }

        void ask(int x, int y) {
            xs[ASKED] = x;
            ys[ASKED] = y;
        }

        /** The document's c(a,b,p). */
        long crossProduct(int a, int b, int p) {
            long alongX = xs[b] - xs[a];
            long alongY = ys[b] - ys[a];
            return alongX * (ys[p] - ys[a]) - alongY * (xs[p] - xs[a]);
        }

        /** 1 when p lies on the left of the way from a to b, -1 on the right, 0 on its line. */
        int handOf(int a, int b, int p) {
            long onLeft = crossProduct(a, b, p);
            return onLeft > 0 ? 1 : onLeft < 0 ? -1 : 0;
        }

        /** Above 0 if, seen from a, b and p lie less than a right angle apart. */
        long dotProduct(int a, int b, int p) {
            long alongX = xs[b] - xs[a];
            long alongY = ys[b] - ys[a];
            return alongX * (xs[p] - xs[a]) + alongY * (ys[p] - ys[a]);
        }

        /** ax by - bx ay, which the sides of a way round add up to twice its area. */
        long roundProduct(int a, int b) {
            return (long) xs[a] * ys[b] - (long) xs[b] * ys[a];
        }

        long squaredDistance(int a, int b) {
            long alongX = xs[b] - xs[a];
            long alongY = ys[b] - ys[a];
            return alongX * alongX + alongY * alongY;
        }

        boolean areAtOnePlace(int a, int b) {
            return xs[a] == xs[b] && ys[a] == ys[b];
        }

        /** The ends belong to it, and both may be at one place. */
        boolean isOnSegment(int a, int b, int p) {
            return crossProduct(a, b, p) == 0 && dotProduct(p, a, b) <= 0;
        }

        boolean segmentsMeet(int a, int b, int c, int d) {
            boolean firstParts = handOf(a, b, c) * handOf(a, b, d) < 0;
            boolean secondParts = handOf(c, d, a) * handOf(c, d, b) < 0;
            return (firstParts && secondParts)
                    || isOnSegment(a, b, c)
                    || isOnSegment(a, b, d)
                    || isOnSegment(c, d, a)
                    || isOnSegment(c, d, b);
        }

        /** Whether p looks along its growing x at the side from a to b. */
        boolean isSeenFrom(int p, int a, int b) {
            // An end at the very height of p counts as below, so that a look through a place of the
            // route meets the two sides there once, or twice, or not at all, as it should.
            boolean aIsAbove = ys[a] > ys[p];
            boolean bIsAbove = ys[b] > ys[p];
            if (aIsAbove == bIsAbove) {
                return false;
            }
            return handOf(a, b, p) == (bIsAbove ? 1 : -1);
        }

        int pairsAtOnePlace() {
            int found = 0;
            for (int i = 0; i < size; i++) {
                for (int k = i + 1; k < size; k++) {
                    if (areAtOnePlace(i, k)) {
                        found++;
                    }
                }
            }
            return found;
        }

        int threesOnOneLine() {
            int found = 0;
            for (int i = 0; i < size; i++) {
                for (int k = i + 1; k < size; k++) {
                    for (int m = k + 1; m < size; m++) {
                        if (crossProduct(i, k, m) == 0) {
                            found++;
                        }
                    }
                }
            }
            return found;
        }
    }

    /** The corners round all points, or round those that have not been left out. */
    private static final class Hull {
        private final Points points;
        private final boolean[] isLeftOut = new boolean[MOST_POINTS];
        final int[] corners = new int[MOST_POINTS];
        int size = 0;
        private int version = 0;

        Hull(Points points) {
            this.points = points;
        }

        void refresh() {
            if (version != points.version) {
                takeAllIn();
                wrap();
                version = points.version;
            }
        }

        void takeAllIn() {
            for (int p = 0; p < MOST_POINTS; p++) {
                isLeftOut[p] = false;
            }
        }

        void leaveOut(int point) {
            isLeftOut[point] = true;
        }

        boolean takesIn(int point) {
            return !isLeftOut[point];
        }

        void wrap() {
            size = 0;
            int first = lowest();
            int next = first;
            for (int i = 0; i < MOST_POINTS && next != NONE; i++) {
                corners[size] = next;
                size++;
                next = cornerBehind(next);
                if (next == first) {
                    next = NONE;
                }
            }
        }

        /** The first corner; the least number among points at its place. */
        private int lowest() {
            int found = NONE;
            for (int p = 0; p < points.size; p++) {
                if (takesIn(p) && (found == NONE || isLower(p, found))) {
                    found = p;
                }
            }
            return found;
        }

        private boolean isLower(int p, int q) {
            int[] xs = points.xs;
            int[] ys = points.ys;
            return ys[p] < ys[q] || (ys[p] == ys[q] && xs[p] < xs[q]);
        }

        /** The farthest of the points that have none on their right, seen from a corner. */
        private int cornerBehind(int corner) {
            int found = NONE;
            for (int p = 0; p < points.size; p++) {
                if (takesIn(p)
                        && !points.areAtOnePlace(corner, p)
                        && (found == NONE || isBetter(corner, p, found))) {
                    found = p;
                }
            }
            return found;
        }

        private boolean isBetter(int corner, int p, int q) {
            long onLeft = points.crossProduct(corner, q, p);
            return onLeft < 0
                    || (onLeft == 0
                            && points.squaredDistance(corner, p)
                                    > points.squaredDistance(corner, q));
        }

        int cornerAfter(int i) {
            return corners[i + 1 < size ? i + 1 : 0];
        }

        /** 1 within, 0 on the border (a hull without inner is all border), -1 outside. */
        int holds(int p) {
            if (size == 0) {
                return -1;
            }
            if (size < LEAST_SIDES) {
                return points.isOnSegment(corners[0], corners[size - 1], p) ? 0 : -1;
            }
            int found = 1;
            for (int i = 0; i < size; i++) {
                long onLeft = points.crossProduct(corners[i], cornerAfter(i), p);
                if (onLeft < 0) {
                    return -1;
                }
                if (onLeft == 0) {
                    found = 0;
                }
            }
            return found;
        }

        boolean holdsAllPoints() {
            for (int p = 0; p < points.size; p++) {
                if (holds(p) < 0) {
                    return false;
                }
            }
            return true;
        }

        // A fan of triangles, and not the sum round the corners, so that check can compare the two.
        long twiceArea() {
            long sum = 0;
            for (int i = 2; i < size; i++) {
                sum += points.crossProduct(corners[0], corners[i - 1], corners[i]);
            }
            return sum;
        }

        long sumRound() {
            long sum = 0;
            for (int i = 0; i < size; i++) {
                sum += points.roundProduct(corners[i], cornerAfter(i));
            }
            return sum;
        }
    }

    /** Measures of the sides of a hull with three corners or more. */
    private static final class HullSides {
        static final int THINNEST = 0;
        static final int BOX = 1;

        private final Points points;
        private final Hull hull;
        private final WideProduct left = new WideProduct();
        private final WideProduct right = new WideProduct();

        HullSides(Points points, Hull hull) {
            this.points = points;
            this.hull = hull;
        }

        long height(int i) {
            long greatest = 0;
            for (int k = 0; k < hull.size; k++) {
                greatest = Math.max(greatest,
                        points.crossProduct(hull.corners[i], hull.cornerAfter(i), hull.corners[k]));
            }
            return greatest;
        }

        long length(int i) {
            return points.squaredDistance(hull.corners[i], hull.cornerAfter(i));
        }

        long span(int i) {
            // The side's first end gives 0, so that no other start is needed.
            long least = 0;
            long greatest = 0;
            for (int k = 0; k < hull.size; k++) {
                long along =
                        points.dotProduct(hull.corners[i], hull.cornerAfter(i), hull.corners[k]);
                least = Math.min(least, along);
                greatest = Math.max(greatest, along);
            }
            return greatest - least;
        }

        int firstLeast(int what) {
            int found = 0;
            for (int i = 1; i < hull.size; i++) {
                if (isLess(i, found, what)) {
                    found = i;
                }
            }
            return found;
        }

        // Fractions are compared crosswise, as whole numbers: a long is too short for that.
        private boolean isLess(int i, int k, int what) {
            left.setTo(height(i), width(i, what), length(k));
            right.setTo(height(k), width(k, what), length(i));
            return left.isBelow(right);
        }

        private long width(int i, int what) {
            return what == THINNEST ? height(i) : span(i);
        }
    }

    /** A product of three numbers from 0 to 2^38, in limbs of 24 bits, the least one first. */
    private static final class WideProduct {
        private static final int LIMBS = 5;
        private static final int LIMB_BITS = 24;
        private static final long LIMB_MASK = (1L << LIMB_BITS) - 1;

        private final long[] limbs = new long[LIMBS];

        void setTo(long a, long b, long c) {
            for (int i = 0; i < LIMBS; i++) {
                limbs[i] = 0;
            }
            limbs[0] = 1;
            multiplyBy(a);
            multiplyBy(b);
            multiplyBy(c);
        }

        private void multiplyBy(long factor) {
            long carry = 0;
            for (int i = 0; i < LIMBS; i++) {
                long whole = limbs[i] * factor + carry;
                limbs[i] = whole & LIMB_MASK;
                carry = whole >>> LIMB_BITS;
            }
        }

        boolean isBelow(WideProduct other) {
            for (int i = LIMBS - 1; i >= 0; i--) {
                if (limbs[i] != other.limbs[i]) {
                    return limbs[i] < other.limbs[i];
                }
            }
            return false;
        }
    }

    /** The layer of each point, found by taking off one hull's border after the other. */
    private static final class Layers {
        private final Points points;
        private final Hull shell;
        final int[] layerOf = new int[MOST_POINTS];
        int size = 0;
        private int version = 0;

        Layers(Points points) {
            this.points = points;
            shell = new Hull(points);
        }

        void refresh() {
            if (version == points.version) {
                return;
            }
            shell.takeAllIn();
            size = 0;
            int left = points.size;
            for (int i = 0; i < MOST_POINTS && left > 0; i++) {
                left -= takeOffBorder();
                size++;
            }
            version = points.version;
        }

        private int takeOffBorder() {
            int taken = 0;
            shell.wrap();
            for (int p = 0; p < points.size; p++) {
                if (shell.takesIn(p) && shell.holds(p) == 0) {
                    layerOf[p] = size;
                    shell.leaveOut(p);
                    taken++;
                }
            }
            return taken;
        }
    }

    /** The row of points, and what is on its left and right when it has three places or more. */
    private static final class Route {
        private final Points points;
        final int[] places = new int[MOST_PLACES];
        int size = 0;
        int version = 0;

        Route(Points points) {
            this.points = points;
        }

        void append(int point) {
            places[size] = point;
            size++;
            version++;
        }

        void removeAll() {
            size = 0;
            version++;
        }

        void reverse(int from, int to) {
            int low = from;
            for (int high = to; high > low; high--) {
                int kept = places[low];
                places[low] = places[high];
                places[high] = kept;
                low++;
            }
            version++;
        }

        int placeAfter(int i) {
            return i + 1 < size ? i + 1 : 0;
        }

        int pointAfter(int i) {
            return places[placeAfter(i)];
        }

        boolean pointsAreApart() {
            for (int i = 0; i < size; i++) {
                for (int k = i + 1; k < size; k++) {
                    if (points.areAtOnePlace(places[i], places[k])) {
                        return false;
                    }
                }
            }
            return true;
        }

        long sumRound() {
            if (size < LEAST_SIDES) {
                return 0;
            }
            long sum = 0;
            for (int i = 0; i < size; i++) {
                sum += points.roundProduct(places[i], pointAfter(i));
            }
            return sum;
        }

        /** For a simple route: 1 within, 0 on a side, -1 outside. */
        int holds(int p) {
            boolean isWithin = false;
            for (int i = 0; i < size; i++) {
                if (points.isOnSegment(places[i], pointAfter(i), p)) {
                    return 0;
                }
                if (points.isSeenFrom(p, places[i], pointAfter(i))) {
                    isWithin = !isWithin;
                }
            }
            return isWithin ? 1 : -1;
        }
    }

    /** The pairs of sides of the route that cross, in order, and so whether it is simple. */
    private static final class Crossings {
        private final Points points;
        private final Route route;
        final int[] pairs = new int[MOST_PAIRS_OF_SIDES];
        int size = 0;
        boolean routeIsSimple = false;
        private int version = 0;

        Crossings(Points points, Route route) {
            this.points = points;
            this.route = route;
        }

        void refresh() {
            if (version == route.version) {
                return;
            }
            size = 0;
            int sides = route.size < LEAST_SIDES ? 0 : route.size;
            for (int i = 0; i < sides; i++) {
                for (int k = i + 1; k < sides; k++) {
                    if (doCross(i, k)) {
                        pairs[size] = 64 * i + k;
                        size++;
                    }
                }
            }
            // Three places at one place of the plane have no sides that cross.
            routeIsSimple = sides > 0 && size == 0 && route.pointsAreApart();
            version = route.version;
        }

        private boolean doCross(int i, int k) {
            if (route.placeAfter(i) == k) {
                return foldsBack(i, k);
            }
            if (route.placeAfter(k) == i) {
                return foldsBack(k, i);
            }
            return points.segmentsMeet(
                    route.places[i], route.pointAfter(i), route.places[k], route.pointAfter(k));
        }

        /** Whether a side and the one behind it share more than the place between them. */
        private boolean foldsBack(int i, int behind) {
            int between = route.places[behind];
            int before = route.places[i];
            int after = route.pointAfter(behind);
            return points.crossProduct(between, before, after) == 0
                    && points.dotProduct(between, before, after) > 0;
        }
    }

    /** How a simple route is cut into triangles. */
    private static final class Triangles {
        private final Points points;
        private final Route route;
        final int[] cut = new int[MOST_PLACES];
        int size = 0;
        private int version = 0;
        private final int[] left = new int[MOST_PLACES];
        private int leftSize = 0;
        private int innerSide = 1;

        Triangles(Points points, Route route) {
            this.points = points;
            this.route = route;
        }

        void refresh(boolean routeIsSimple) {
            if (version == route.version) {
                return;
            }
            size = 0;
            if (routeIsSimple) {
                cutAll();
            }
            version = route.version;
        }

        private void cutAll() {
            innerSide = route.sumRound() > 0 ? 1 : -1;
            leftSize = route.size;
            for (int i = 0; i < leftSize; i++) {
                left[i] = i;
            }
            for (int cuts = route.size - LEAST_SIDES; cuts > 0; cuts--) {
                int ear = firstEar();
                keep(left[before(ear)], left[ear], left[behind(ear)]);
                remove(ear);
            }
            keep(left[0], left[1], left[2]);
        }

        private void keep(int a, int p, int b) {
            cut[size] = 4096 * a + 64 * p + b;
            size++;
        }

        private void remove(int i) {
            leftSize--;
            for (int k = i; k < leftSize; k++) {
                left[k] = left[k + 1];
            }
        }

        private int before(int i) {
            return i > 0 ? i - 1 : leftSize - 1;
        }

        private int behind(int i) {
            return i + 1 < leftSize ? i + 1 : 0;
        }

        private int firstEar() {
            int last = leftSize - 1;
            for (int i = 0; i < last; i++) {
                if (isEar(i)) {
                    return i;
                }
            }
            // A simple route always has one: when none of the others is, it is the last.
            return last;
        }

        private boolean isEar(int i) {
            int before = before(i);
            int behind = behind(i);
            int a = route.places[left[before]];
            int p = route.places[left[i]];
            int b = route.places[left[behind]];
            if (turnInwards(a, p, b) <= 0) {
                return false;
            }
            for (int k = 0; k < leftSize; k++) {
                if (k != before && k != i && k != behind
                        && isInTriangle(a, p, b, route.places[left[k]])) {
                    return false;
                }
            }
            return true;
        }

        private long turnInwards(int a, int p, int b) {
            return innerSide * points.crossProduct(a, p, b);
        }

        /** For a triangle that turns inwards; its border belongs to it. */
        private boolean isInTriangle(int a, int p, int b, int q) {
            return innerSide * points.crossProduct(a, p, q) >= 0
                    && innerSide * points.crossProduct(p, b, q) >= 0
                    && innerSide * points.crossProduct(b, a, q) >= 0;
        }

        /** What check asks of the triangles of a simple route. */
        boolean fillTheRoute() {
            long sum = 0;
            for (int i = 0; i < size; i++) {
                int a = route.places[cut[i] / 4096];
                int p = route.places[cut[i] / 64 % 64];
                int b = route.places[cut[i] % 64];
                if (turnInwards(a, p, b) <= 0) {
                    return false;
                }
                sum += turnInwards(a, p, b);
            }
            return sum == innerSide * route.sumRound();
        }
    }
}
