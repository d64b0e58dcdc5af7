import java.util.List;

/** Answers of the class beside those of the slow second program. */
class Compared {
    // A fault of the class mostly shows in many runs: the first lines tell enough.
    private static final int ENOUGH_WRONG = 20;

    private static int wrong = 0;
    private static long compared = 0;

    interface Call {
        long run();
    }

    static boolean goesOn() {
        return wrong < ENOUGH_WRONG;
    }

    static void finish() {
        System.out.println(compared + " answers compared, " + wrong + " not alike");
        if (wrong != 0 || compared == 0) {
            System.exit(1);
        }
    }

    static void compare(String name, Call got, Call want) {
        compared++;
        String mine = answer(got);
        String due = answer(want);
        if (!mine.equals(due)) {
            wrong++;
            System.out.println(name + " answered " + mine + ", due is " + due);
        }
    }

    private static String answer(Call call) {
        try {
            return Long.toString(call.run());
        } catch (RuntimeException e) {
            return "throws." + e.getClass().getSimpleName();
        }
    }

    static void compareRoute(PointDesk desk, Slow slow, String name) {
        compare(name + ": simple()", desk::simple, slow::simple);
        compare(name + ": crossings()", desk::crossings, slow::crossings);
        compare(name + ": round()", desk::round, slow::round);
        List<Integer> triangles = slow.triangles();
        for (int i = 0; i <= triangles.size(); i++) {
            int k = i;
            compare(name + ": triangle(" + k + ")", () -> desk.triangle(k),
                    () -> k < triangles.size() ? triangles.get(k) : -1);
        }
        List<Integer> crossings = slow.crossingList();
        for (int i = 0; i <= crossings.size(); i++) {
            int k = i;
            compare(name + ": crossing(" + k + ")", () -> desk.crossing(k),
                    () -> k < crossings.size() ? crossings.get(k) : -1);
        }
        compare(name + ": check()", desk::check, () -> 1);
    }
}
