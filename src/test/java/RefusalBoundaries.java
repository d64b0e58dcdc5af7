import java.util.List;
import java.util.function.Consumer;

/** That calls which throw change nothing, and that nothing is done by those which are refused. */
public final class RefusalBoundaries extends Checks {
    public static void main(String[] args) {
        Sentences.runAll(RefusalBoundaries.class);
    }

    /** Points on two layers, two of them at one place, and a simple route through five. */
    private static PointDesk busy() {
        PointDesk desk = desk(0, 0, 8, 0, 8, 8, 0, 8, 3, 3, 5, 4, 8, 8);
        go(desk, 0, 1, 2, 5, 3);
        return desk;
    }

    /** The calls are made on a desk that has found nothing yet, and on one that has found all. */
    private static void dueUntouched(Consumer<PointDesk> calls) {
        PointDesk fresh = busy();
        calls.accept(fresh);
        List<String> before = Answers.of(busy());
        dueSame("before all was asked", Answers.of(fresh), before);
        PointDesk used = busy();
        Answers.of(used);
        calls.accept(used);
        dueSame("behind all that was asked", Answers.of(used), before);
    }

    private static void dueSame(String name, List<String> got, List<String> want) {
        due(name + ": how many answers", got.size(), want.size());
        for (int i = 0; i < Math.min(got.size(), want.size()); i++) {
            if (!got.get(i).equals(want.get(i))) {
                fail(name + ": now " + got.get(i) + ", before " + want.get(i));
            }
        }
    }

    // ---- What throws changes nothing

    @Sentence(in = "Terms", words = "What throws changes nothing.")
    static void atThatThrowsChangesNothing() {
        dueUntouched(desk -> {
            dueIndex("at(7, 0)", () -> desk.at(7, 0));
            dueIndex("at(-1, 1)", () -> desk.at(-1, 1));
            dueArgument("at(0, 2)", () -> desk.at(0, 2));
            dueArgument("at(0, -1)", () -> desk.at(0, -1));
        });
    }

    @Sentence(in = "Terms", words = "What throws changes nothing.")
    static void distanceThatThrowsChangesNothing() {
        dueUntouched(desk -> {
            dueIndex("distance(0, 7)", () -> desk.distance(0, 7));
            dueIndex("distance(-1, 0)", () -> desk.distance(-1, 0));
        });
    }

    @Sentence(in = "Terms", words = "What throws changes nothing.")
    static void sideThatThrowsChangesNothing() {
        dueUntouched(desk -> {
            dueIndex("side(4, 0)", () -> desk.side(4, 0));
            dueIndex("side(-1, 0)", () -> desk.side(-1, 0));
            dueArgument("side(0, 3)", () -> desk.side(0, 3));
        });
    }

    @Sentence(in = "Terms", words = "What throws changes nothing.")
    static void whereThatThrowsChangesNothing() {
        dueUntouched(desk -> {
            dueArgument("where(100001, 0)", () -> desk.where(100001, 0));
            dueArgument("where(0, -100001)", () -> desk.where(0, -100001));
        });
    }

    @Sentence(in = "Terms", words = "What throws changes nothing.")
    static void nearestThatThrowsChangesNothing() {
        dueUntouched(desk -> {
            dueArgument("nearest(-100001, 0)", () -> desk.nearest(-100001, 0));
            dueArgument("nearest(0, 100001)", () -> desk.nearest(0, 100001));
        });
    }

    @Sentence(in = "Terms", words = "What throws changes nothing.")
    static void besideThatThrowsChangesNothing() {
        dueUntouched(desk -> {
            dueIndex("beside(0, 7, 1)", () -> desk.beside(0, 7, 1));
            dueIndex("beside(-1, 0, 1)", () -> desk.beside(-1, 0, 1));
        });
    }

    @Sentence(in = "Terms", words = "What throws changes nothing.")
    static void turnThatThrowsChangesNothing() {
        dueUntouched(desk -> {
            dueTurnThrows(desk, 0, 5);
            dueTurnThrows(desk, -1, 4);
            dueTurnThrows(desk, 3, 1);
            dueTurnThrows(desk, 5, 5);
        });
    }

    @Sentence(in = "Terms", words = "What throws changes nothing.")
    static void insideThatThrowsChangesNothing() {
        dueUntouched(desk -> {
            dueArgument("inside(100001, 0)", () -> desk.inside(100001, 0));
            dueArgument("inside(0, 100001)", () -> desk.inside(0, 100001));
        });
    }

    // ---- nothing is done

    @Sentence(in = "Promise 2", words = "NONE, and nothing is done, when x or y is too large")
    static void addOfNumbersThatAreTooLargeDoesNothing() {
        dueUntouched(desk -> {
            due("add(100001, 0)", desk.add(100001, 0), -1);
            due("add(-100001, 0)", desk.add(-100001, 0), -1);
            due("add(0, 100001)", desk.add(0, 100001), -1);
            due("add(0, -100001)", desk.add(0, -100001), -1);
        });
        due("the next point", busy().add(100000, 100000), 7);
    }

    @Sentence(in = "Promise 2", words = "or there are 60")
    static void addBeyond60DoesNothing() {
        PointDesk full = curve(60);
        full.add(-100000, -100000);
        full.add(0, 0);
        dueSame("60 points", Answers.of(full), Answers.of(curve(60)));
    }

    @Sentence(in = "Promise 16", words = "NONE, and nothing is done, when there is no such point")
    static void goToNoSuchPointDoesNothing() {
        dueUntouched(desk -> {
            due("go(7)", desk.go(7), -1);
            due("go(-1)", desk.go(-1), -1);
        });
        due("the next place", busy().go(6), 6);
    }

    @Sentence(in = "Promise 16", words = "or it has 40")
    static void goBeyond40DoesNothing() {
        PointDesk full = toAndFro(40);
        full.go(0);
        full.go(1);
        dueSame("40 places", Answers.of(full), Answers.of(toAndFro(40)));
    }

    // ---- calls that only ask

    @Sentence(in = "Not promised", words = "Nothing is promised beyond the answers and state changes")
    static void askingChangesNothing() {
        PointDesk desk = busy();
        List<String> first = Answers.of(desk);
        dueSame("asked twice", Answers.of(desk), first);
        desk.stop();
        go(desk, 0, 1, 2, 5, 3);
        dueSame("the same route anew", Answers.of(desk), first);
    }
}
