import java.util.ArrayList;
import java.util.List;
import java.util.function.Consumer;
import java.util.function.Supplier;

/**
 * What answers tell of an object's state: objects of the same state give the same reading. Each
 * part takes apart an object of its own, so that a fault which one part brings about, and so hides,
 * is seen by the others, and none comes near the 512th call.
 */
final class Reading {
    private final List<Integer> answers = new ArrayList<>();

    private Reading() {
    }

    static List<Integer> of(Supplier<RoundPlanner> made) {
        Reading reading = new Reading();
        List<Consumer<RoundPlanner>> parts = List.of(reading::journeys, reading::footpathsAndStarts,
                reading::linesOfTrips, reading::linesByNewTrips, reading::lineLengths, reading::lineStops,
                reading::room);
        for (Consumer<RoundPlanner> part : parts) {
            part.accept(made.get());
        }
        return reading.answers;
    }

    private void journeys(RoundPlanner x) {
        for (int pair = 0; pair < 64; pair++) {
            answers.add(x.earliest(pair / 8, pair % 8, 0));
            answers.add(x.earliest(pair / 8, pair % 8, 200));
            answers.add(x.latest(pair / 8, pair % 8, 1000));
        }
    }

    private void footpathsAndStarts(RoundPlanner x) {
        footpathsAway(x);
        for (int trip = 0; trip < 13; trip++) {
            answers.add(x.delay(trip, 0));
        }
    }

    private void footpathsAway(RoundPlanner x) {
        for (int a = 0; a < 8; a++) {
            for (int b = a + 1; b < 8; b++) {
                answers.add(x.footpath(a, b, 0));
            }
        }
    }

    /** Each trip in its turn is the only one that still leaves after 200. */
    private void linesOfTrips(RoundPlanner x) {
        footpathsAway(x);
        for (int trip = 0; trip < 12; trip++) {
            x.delay(trip, 0);
        }
        for (int trip = 0; trip < 12; trip++) {
            x.delay(trip, 500);
            for (int stop = 0; stop < 8; stop++) {
                answers.add(x.within(stop, 200, 1000));
            }
            x.delay(trip, 0);
        }
    }

    private void linesByNewTrips(RoundPlanner x) {
        for (int line = 0; line < 5; line++) {
            answers.add(x.trip(line, 500));
        }
        for (int pair = 0; pair < 64; pair++) {
            answers.add(x.earliestWith(pair / 8, pair % 8, 500, 1));
        }
    }

    /** Extends each line once, by the first stop that isn't on it. */
    private void lineLengths(RoundPlanner x) {
        for (int line = 0; line < 6; line++) {
            int answer = RoundPlanner.BAD_STOP;
            for (int stop = 0; stop < 8 && answer == RoundPlanner.BAD_STOP; stop++) {
                answer = x.extend(line, stop, 1);
                answers.add(answer);
            }
        }
    }

    /** With 31 minutes each stop is refused: for itself if it is on the line, else for its time. */
    private void lineStops(RoundPlanner x) {
        for (int line = 0; line < 5; line++) {
            for (int stop = 0; stop < 8; stop++) {
                answers.add(x.extend(line, stop, 31));
            }
        }
    }

    private void room(RoundPlanner x) {
        for (int line = 0; line < 6; line++) {
            answers.add(x.line(7));
        }
        for (int trip = 0; trip < 13; trip++) {
            answers.add(x.trip(trip % 5, 400));
        }
    }
}
