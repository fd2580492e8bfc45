import java.util.ArrayList;
import java.util.List;

/**
 * What an object's answers tell of its state: two objects of the same state give the same
 * reading. The object is taken apart by it, with some 400 calls, and is of no use afterwards.
 */
final class Reading {
    private final RoundPlanner x;
    private final List<Integer> answers = new ArrayList<>();

    private Reading(RoundPlanner x) {
        this.x = x;
    }

    static List<Integer> of(RoundPlanner x) {
        Reading reading = new Reading(x);
        reading.latest();
        reading.earliest(0);
        reading.footpathsAway();
        reading.tripsToStart();
        reading.earliest(0);
        reading.lines();
        reading.room();
        // All trips that were there are gone by now; these are the ones that found room.
        reading.earliest(400);
        return reading.answers;
    }

    private void latest() {
        for (int pair = 0; pair < 64; pair++) {
            answers.add(x.latest(pair / 8, pair % 8, 1000));
        }
    }

    private void earliest(int t) {
        for (int pair = 0; pair < 64; pair++) {
            answers.add(x.earliest(pair / 8, pair % 8, t));
        }
    }

    private void footpathsAway() {
        for (int a = 0; a < 8; a++) {
            for (int b = a + 1; b < 8; b++) {
                answers.add(x.footpath(a, b, 0));
            }
        }
    }

    private void tripsToStart() {
        for (int trip = 0; trip < 13; trip++) {
            answers.add(x.delay(trip, 0));
        }
    }

    private void lines() {
        for (int line = 0; line < 6; line++) {
            int free = 0;
            for (int stop = 0; stop < 8; stop++) {
                // With 31 minutes it is refused for its stop or for its time, and changes nothing.
                int answer = x.extend(line, stop, 31);
                answers.add(answer);
                free = answer == RoundPlanner.BAD_TIME ? stop : free;
            }
            answers.add(x.extend(line, free, 1));
        }
    }

    private void room() {
        for (int line = 0; line < 6; line++) {
            answers.add(x.line(7));
        }
        for (int trip = 0; trip < 13; trip++) {
            answers.add(x.trip(trip % 5, 400 + trip));
        }
    }
}
