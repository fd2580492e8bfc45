import java.util.List;
import java.util.function.Supplier;

/** Timetables that several tests begin with. */
final class Timetables {
    /** An empty one, one with room for everything, and one that is full. */
    static final List<Supplier<RoundPlanner>> ALL = List.of(RoundPlanner::new, Timetables::some, Timetables::full);

    private Timetables() {
    }

    /** Stops 0, 1 and 2, ten and five minutes apart, with trips at 40 and 20. */
    static RoundPlanner oneLine() {
        RoundPlanner x = new RoundPlanner();
        x.line(0);
        x.extend(0, 1, 10);
        x.extend(0, 2, 5);
        x.trip(0, 40);
        x.trip(0, 20);
        return x;
    }

    /** A line with trips, one of a single stop with none, and one of two stops with none. */
    static RoundPlanner some() {
        RoundPlanner x = oneLine();
        x.line(7);
        x.line(3);
        x.extend(2, 4, 7);
        x.footpath(2, 3, 6);
        x.footpath(0, 7, 30);
        return x;
    }

    /** So many lines, each of a single stop. */
    static RoundPlanner lines(int count) {
        RoundPlanner x = new RoundPlanner();
        for (int line = 0; line < count; line++) {
            x.line(line);
        }
        return x;
    }

    /** So many trips, ten minutes apart from 10 on, of one line from 0 to 1. */
    static RoundPlanner trips(int count) {
        RoundPlanner x = new RoundPlanner();
        x.line(0);
        x.extend(0, 1, 5);
        for (int trip = 0; trip < count; trip++) {
            x.trip(0, 10 + 10 * trip);
        }
        return x;
    }

    /** Five lines of six stops: line n begins at stop n, and its i-th stretch takes n + i minutes. */
    static RoundPlanner longLines() {
        RoundPlanner x = lines(5);
        for (int line = 0; line < 5; line++) {
            for (int i = 1; i < 6; i++) {
                x.extend(line, (line + i) % 8, line + i);
            }
        }
        return x;
    }

    /** Five lines of six stops, twelve trips, and a footpath between any two stops. */
    static RoundPlanner full() {
        RoundPlanner x = longLines();
        for (int trip = 0; trip < 12; trip++) {
            x.trip(trip % 5, 40 * trip);
        }
        for (int a = 0; a < 8; a++) {
            for (int b = a + 1; b < 8; b++) {
                x.footpath(a, b, 30 - a - b);
            }
        }
        return x;
    }

    /**
     * Two lines are each quick where the other is slow, and earlier trips of the one wait where
     * the other's arrive: from 0 at 100 to each stop it takes as many rides and minutes as its
     * number says, up to the seven rides that eight stops allow. The trips are numbered in the
     * order in which they are ridden, or against it.
     */
    static RoundPlanner sevenRides(boolean turned) {
        int[][] trips = {{0, 100}, {1, 101}, {0, 71}, {1, 72}, {0, 42}, {1, 43}, {2, 106}};
        RoundPlanner x = lines(2);
        for (int line = 0; line < 2; line++) {
            for (int i = 1; i < 6; i++) {
                x.extend(line, line + i, i % 2 == 1 ? 1 : 30);
            }
        }
        x.line(6);
        x.extend(2, 7, 1);
        for (int i = 0; i < 7; i++) {
            int[] trip = trips[turned ? 6 - i : i];
            x.trip(trip[0], trip[1]);
        }
        return x;
    }
}
