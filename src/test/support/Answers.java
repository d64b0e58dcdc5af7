import java.util.ArrayList;
import java.util.List;

/** What a desk tells of all that it holds, so that two states can be compared. */
final class Answers {
    // Of 780 crossings the first ones do, so that a desk stays below its 512 calls.
    private static final int MOST_CROSSINGS = 20;
    private static final int[][] ASKED_PLACES = {{0, 0}, {3, 3}, {5, 4}, {-9, 2}};

    private final PointDesk desk;
    private final List<String> answers = new ArrayList<>();

    private Answers(PointDesk desk) {
        this.desk = desk;
    }

    static List<String> of(PointDesk desk) {
        Answers all = new Answers(desk);
        all.askForPoints();
        all.askForHull();
        all.askForRoute();
        all.askForPlaces();
        all.tell("check", 0, desk.check());
        return all.answers;
    }

    private void tell(String name, int number, long answer) {
        answers.add(name + " " + number + ": " + answer);
    }

    private void askForPoints() {
        for (int what = 0; what <= 5; what++) {
            tell("count", what, desk.count(what));
        }
        int points = desk.count(0);
        for (int p = 0; p < points; p++) {
            tell("x", p, desk.at(p, 0));
            tell("y", p, desk.at(p, 1));
            tell("layer", p, desk.layer(p));
        }
        tell("pair", 0, desk.pair(0));
        tell("pair", 1, desk.pair(1));
    }

    private void askForHull() {
        int corners = desk.count(1);
        for (int i = 0; i < corners; i++) {
            tell("corner", i, desk.corner(i));
        }
        tell("area", 0, desk.area());
        tell("best", 0, desk.best(0));
        tell("best", 1, desk.best(1));
        for (int what = 0; corners > 2 && what <= 2; what++) {
            tell("last side", what, desk.side(corners - 1, what));
        }
    }

    private void askForRoute() {
        int places = desk.count(3);
        for (int i = 0; i < places; i++) {
            tell("place", i, desk.place(i));
        }
        for (int i = 0; i < places - 1; i++) {
            tell("triangle", i, desk.triangle(i));
        }
        int crossings = desk.crossings();
        tell("crossings", 0, crossings);
        for (int i = 0; i < Math.min(crossings, MOST_CROSSINGS); i++) {
            tell("crossing", i, desk.crossing(i));
        }
        tell("simple", 0, desk.simple());
        tell("round", 0, desk.round());
    }

    private void askForPlaces() {
        for (int i = 0; i < ASKED_PLACES.length; i++) {
            int x = ASKED_PLACES[i][0];
            int y = ASKED_PLACES[i][1];
            tell("where", i, desk.where(x, y));
            tell("nearest", i, desk.nearest(x, y));
            tell("inside", i, desk.inside(x, y));
        }
    }
}
