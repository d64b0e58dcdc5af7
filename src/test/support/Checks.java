/** What the tests of the project share: they ask, count what is not as due, and make desks. */
class Checks {
    static final int MIN = Integer.MIN_VALUE;
    static final int MAX = Integer.MAX_VALUE;

    private static String subject = "";
    private static int asked = 0;
    private static int wrong = 0;

    interface Call {
        Object run();
    }

    interface PlaceCall {
        long run(int x, int y);
    }

    /** What the next answers belong to, for the lines that tell of wrong ones. */
    static void about(String newSubject) {
        subject = newSubject;
    }

    static int asked() {
        return asked;
    }

    static int wrong() {
        return wrong;
    }

    static void fail(String fault) {
        wrong++;
        System.out.println(subject + ": " + fault);
    }

    static void finish() {
        System.out.println(asked + " answers asked, " + wrong + " not as due");
        if (wrong != 0) {
            System.exit(1);
        }
    }

    static void due(String call, long got, long want) {
        asked++;
        if (got != want) {
            fail(call + " answered " + got + ", due is " + want);
        }
    }

    static void dueIndex(String call, Call run) {
        dueThrow(call, IndexOutOfBoundsException.class, run);
    }

    static void dueArgument(String call, Call run) {
        dueThrow(call, IllegalArgumentException.class, run);
    }

    private static void dueThrow(String call, Class<? extends RuntimeException> want, Call run) {
        asked++;
        String got;
        try {
            got = "answered " + run.run();
        } catch (RuntimeException e) {
            if (e.getClass() == want) {
                return;
            }
            got = "threw " + e;
        }
        fail(call + " " + got + ", due is " + want.getSimpleName());
    }

    static void dueTurnThrows(PointDesk desk, int i, int k) {
        dueIndex("turn(" + i + ", " + k + ")", () -> {
            desk.turn(i, k);
            return "nothing";
        });
    }

    /** Both sides of all four limits of x and y, and the numbers that are farthest beyond. */
    static void dueArgumentBeyondTheLimits(String name, PlaceCall call) {
        int[] within = {100000, -100000};
        for (int n : within) {
            dueNoThrow(name + "(" + n + ", 0)", () -> call.run(n, 0));
            dueNoThrow(name + "(0, " + n + ")", () -> call.run(0, n));
        }
        int[] beyond = {100001, -100001, MAX, MIN};
        for (int n : beyond) {
            dueArgument(name + "(" + n + ", 0)", () -> call.run(n, 0));
            dueArgument(name + "(0, " + n + ")", () -> call.run(0, n));
            dueArgument(name + "(" + n + ", " + n + ")", () -> call.run(n, n));
        }
    }

    private static void dueNoThrow(String call, Call run) {
        asked++;
        try {
            run.run();
        } catch (RuntimeException e) {
            fail(call + " threw " + e + ", due is an answer");
        }
    }

    /** A desk with points at x, y, x, y and so on. */
    static PointDesk desk(int... numbers) {
        PointDesk desk = new PointDesk();
        for (int i = 0; i + 1 < numbers.length; i += 2) {
            desk.add(numbers[i], numbers[i + 1]);
        }
        return desk;
    }

    /** The same, with a route through all points in their order. */
    static PointDesk routed(int... numbers) {
        PointDesk desk = desk(numbers);
        for (int i = 0; i < numbers.length / 2; i++) {
            desk.go(i);
        }
        return desk;
    }

    static PointDesk atOnePlace(int count) {
        PointDesk desk = new PointDesk();
        for (int i = 0; i < count; i++) {
            desk.add(5, 5);
        }
        return desk;
    }

    /** Points that are all corners, in the order of the hull. */
    static PointDesk curve(int count) {
        PointDesk desk = new PointDesk();
        for (int i = 0; i < count; i++) {
            desk.add(i, i * i);
        }
        return desk;
    }

    /** The same, with a simple route through them. */
    static PointDesk curveRouted(int count) {
        PointDesk desk = curve(count);
        for (int i = 0; i < count; i++) {
            desk.go(i);
        }
        return desk;
    }

    /** As many layers of three points each, the outermost first. */
    static PointDesk trianglesWithinEachOther(int layers) {
        PointDesk desk = new PointDesk();
        for (int i = 0; i < layers; i++) {
            desk.add(-100000 + 3 * i, -100000 + 2 * i);
            desk.add(100000 - 3 * i, -100000 + 2 * i);
            desk.add(0, 100000 - 5 * i);
        }
        return desk;
    }

    /** Two points with a route of so many places to and fro between them. */
    static PointDesk toAndFro(int places) {
        PointDesk desk = desk(0, 0, 9, 0);
        for (int i = 0; i < places; i++) {
            desk.go(i % 2);
        }
        return desk;
    }

    /** Another route over the points that are there. */
    static void go(PointDesk desk, int... route) {
        desk.stop();
        for (int point : route) {
            desk.go(point);
        }
    }

    static void dueCorners(String name, PointDesk desk, int... want) {
        due(name + " count(1)", desk.count(1), want.length);
        for (int i = 0; i < want.length; i++) {
            due(name + " corner(" + i + ")", desk.corner(i), want[i]);
        }
        due(name + " corner behind the last", desk.corner(want.length), -1);
    }

    static void dueLayers(String name, PointDesk desk, int layers, int... want) {
        due(name + " count(2)", desk.count(2), layers);
        for (int i = 0; i < want.length; i++) {
            due(name + " layer(" + i + ")", desk.layer(i), want[i]);
        }
        due(name + " layer behind the last", desk.layer(want.length), -1);
    }

    static void dueRoute(String name, PointDesk desk, int... want) {
        due(name + " count(3)", desk.count(3), want.length);
        for (int i = 0; i < want.length; i++) {
            due(name + " place(" + i + ")", desk.place(i), want[i]);
        }
        due(name + " place behind the last", desk.place(want.length), -1);
    }

    static void dueCrossings(String name, PointDesk desk, int... want) {
        due(name + " crossings()", desk.crossings(), want.length);
        for (int i = 0; i < want.length; i++) {
            due(name + " crossing(" + i + ")", desk.crossing(i), want[i]);
        }
        due(name + " crossing behind the last", desk.crossing(want.length), -1);
        due(name + " crossing(-1)", desk.crossing(-1), -1);
    }

    /** The triangles as a, p, b, a, p, b and so on. */
    static void dueTriangles(String name, PointDesk desk, int... want) {
        for (int i = 0; i + 2 < want.length; i += 3) {
            due(name + " triangle(" + i / 3 + ")", desk.triangle(i / 3),
                    triangle(want[i], want[i + 1], want[i + 2]));
        }
        due(name + " triangle behind the last", desk.triangle(want.length / 3), -1);
        due(name + " triangle(-1)", desk.triangle(-1), -1);
    }

    static int triangle(int a, int p, int b) {
        return 4096 * a + 64 * p + b;
    }
}
