import java.util.ArrayList;
import java.util.List;

/**
 * Every set and every short row of places of a small grid, where places that are alike, on one line
 * or on a border are the rule; each answer compared with that of the slow second program.
 */
public final class GridRuns extends Compared {
    private static final int WIDTH = 3;
    private static final int PLACES = WIDTH * WIDTH;

    public static void main(String[] args) {
        everySet();
        everyRow(new ArrayList<>(), 4, false);
        everyRow(new ArrayList<>(), 5, true);
        finish();
    }

    private static void everySet() {
        for (int set = 0; set < 1 << PLACES && goesOn(); set++) {
            List<Integer> places = new ArrayList<>();
            for (int i = 0; i < PLACES; i++) {
                if ((set >> i & 1) == 1) {
                    places.add(i);
                }
            }
            comparePoints(places);
        }
    }

    /** All rows that go on from this one; those of different places alone, if asked for. */
    private static void everyRow(List<Integer> row, int most, boolean areApart) {
        if (!goesOn()) {
            return;
        }
        if (!areApart || row.size() == most) {
            comparePoints(row);
            compareRouteThrough(row);
        }
        for (int i = 0; i < PLACES && row.size() < most; i++) {
            if (!areApart || !row.contains(i)) {
                row.add(i);
                everyRow(row, most, areApart);
                row.remove(row.size() - 1);
            }
        }
    }

    private static int x(int place) {
        return place % WIDTH;
    }

    private static int y(int place) {
        return place / WIDTH;
    }

    private static PointDesk desk(List<Integer> places) {
        PointDesk desk = new PointDesk();
        for (int place : places) {
            desk.add(x(place), y(place));
        }
        return desk;
    }

    private static Slow slow(List<Integer> places) {
        Slow slow = new Slow();
        for (int place : places) {
            slow.add(x(place), y(place));
        }
        return slow;
    }

    private static void comparePoints(List<Integer> places) {
        PointDesk desk = desk(places);
        Slow slow = slow(places);
        String name = "places " + places;
        for (int i = 0; i <= 5; i++) {
            int what = i;
            compare(name + ": count(" + i + ")", () -> desk.count(what), () -> slow.count(what));
        }
        compare(name + ": area()", desk::area, slow::area);
        for (int i = 0; i <= places.size(); i++) {
            int k = i;
            compare(name + ": corner(" + i + ")", () -> desk.corner(k), () -> slow.corner(k));
            compare(name + ": layer(" + i + ")", () -> desk.layer(k), () -> slow.layer(k));
        }
        for (int i = 0; i <= 1; i++) {
            int way = i;
            compare(name + ": pair(" + i + ")", () -> desk.pair(way), () -> slow.pair(way));
            compare(name + ": best(" + i + ")", () -> desk.best(way), () -> slow.best(way));
        }
        for (int i = 0; i < PLACES; i++) {
            int x = x(i);
            int y = y(i);
            String at = "(" + x + ", " + y + ")";
            compare(name + ": where" + at, () -> desk.where(x, y), () -> slow.where(x, y));
            compare(name + ": nearest" + at, () -> desk.nearest(x, y), () -> slow.nearest(x, y));
        }
        compare(name + ": check()", desk::check, () -> 1);
    }

    private static void compareRouteThrough(List<Integer> places) {
        PointDesk desk = desk(places);
        Slow slow = slow(places);
        String name = "route " + places;
        for (int i = 0; i < places.size(); i++) {
            int point = i;
            compare(name + ": go(" + i + ")", () -> desk.go(point), () -> slow.go(point));
        }
        compareRoute(desk, slow, name);
        for (int i = 0; i < PLACES; i++) {
            int x = x(i);
            int y = y(i);
            compare(name + ": inside(" + x + ", " + y + ")",
                    () -> desk.inside(x, y), () -> slow.inside(x, y));
        }
    }
}
