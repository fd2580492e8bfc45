/** Promises 1 to 6, and of promise 12 the order of the tests in these calls. */
public final class TimetableTest {
    private static final int BAD_STOP = RoundPlanner.BAD_STOP;
    private static final int BAD_LINE = RoundPlanner.BAD_LINE;
    private static final int BAD_TIME = RoundPlanner.BAD_TIME;
    private static final int FULL = RoundPlanner.FULL;
    private static final int NEVER = RoundPlanner.NEVER;
    private static final int MIN = Integer.MIN_VALUE;
    private static final int MAX = Integer.MAX_VALUE;

    private static final Check check = new Check();

    public static void main(String[] args) {
        newObject();
        objectsAreApart();
        lineAnswers();
        lineRefuses();
        extendAnswers();
        fullTimetable();
        extendRefuses();
        extendOrder();
        refusedExtendChangesNothing();
        tripAnswers();
        tripRefuses();
        tripOfOneStop();
        footpathAnswers();
        footpathRefuses();
        delayAnswers();
        delayRefuses();
        check.end();
    }

    private static void newObject() {
        RoundPlanner x = new RoundPlanner();
        for (int a = 0; a < 8; a++) {
            for (int b = 0; b < 8; b++) {
                check.due("1: earliest " + a + " " + b, x.earliest(a, b, 5), a == b ? 5 : NEVER);
            }
            check.due("1: within " + a, x.within(a, 0, 1000), 1);
        }
        check.due("1: no line", x.extend(0, 1, 1), BAD_LINE);
        check.due("1: no line for a trip", x.trip(0, 1), BAD_LINE);
        check.due("1: no trip", x.delay(0, 1), BAD_LINE);
        for (int a = 0; a < 8; a++) {
            for (int b = a + 1; b < 8; b++) {
                check.due("1: no footpath " + a + " " + b, x.footpath(a, b, 0), 0);
            }
        }
        check.due("1: the first line", x.line(0), 0);
        check.due("1: the first trip", x.trip(0, 0), 0);
    }

    private static void objectsAreApart() {
        RoundPlanner x = new RoundPlanner();
        RoundPlanner y = new RoundPlanner();
        x.line(0);
        x.trip(0, 3);
        x.footpath(0, 1, 3);
        check.due("1: the other has no line", y.trip(0, 1), BAD_LINE);
        check.due("1: the other has no trip", y.delay(0, 1), BAD_LINE);
        check.due("1: the other has no footpath", y.earliest(0, 1, 0), NEVER);
    }

    private static void lineAnswers() {
        RoundPlanner x = new RoundPlanner();
        check.due("2: first", x.line(0), 0);
        check.due("2: second, last stop", x.line(7), 1);
        check.due("2: the same stop again", x.line(7), 2);
        check.due("2: one stop so far", x.extend(1, 0, 4), 2);
        check.due("2: it begins at its stop", x.extend(2, 7, 4), BAD_STOP);
    }

    private static void lineRefuses() {
        RoundPlanner x = new RoundPlanner();
        for (int stop : new int[] {-1, 8, MIN, MAX}) {
            check.due("2: line " + stop, x.line(stop), BAD_STOP);
        }
        for (int line = 0; line < 5; line++) {
            check.due("2: nothing had changed", x.line(3), line);
        }
        check.due("2: a sixth", x.line(3), FULL);
        check.due("2: a sixth again", x.line(0), FULL);
        check.due("12: line, stop before full", x.line(8), BAD_STOP);
        check.due("2: no sixth line is there", x.trip(5, 0), BAD_LINE);
        check.due("2: the fifth is", x.trip(4, 0), 0);
    }

    private static void extendAnswers() {
        RoundPlanner x = new RoundPlanner();
        x.line(7);
        x.line(7);
        check.due("3: least minutes", x.extend(0, 0, 1), 2);
        check.due("3: most minutes", x.extend(0, 6, 30), 3);
        check.due("3: a stop of another line", x.extend(1, 0, 5), 2);
        check.due("3", x.extend(0, 1, 2), 4);
        check.due("3", x.extend(0, 2, 3), 5);
        check.due("3: the sixth stop", x.extend(0, 3, 4), 6);
        check.due("3: a seventh", x.extend(0, 4, 4), FULL);
        x.trip(0, 100);
        int[] stops = {7, 0, 6, 1, 2, 3};
        int[] times = {100, 101, 131, 133, 136, 140};
        for (int i = 0; i < 6; i++) {
            check.due("3: to " + stops[i], x.earliest(7, stops[i], 100), times[i]);
        }
        check.due("3: the seventh is not on it", x.earliest(7, 4, 100), NEVER);
    }

    private static void fullTimetable() {
        RoundPlanner x = new RoundPlanner();
        for (int line = 0; line < 5; line++) {
            x.line(line);
            for (int i = 1; i < 6; i++) {
                check.due("3: line " + line, x.extend(line, (line + i) % 8, line + i), i + 1);
            }
        }
        for (int line = 0; line < 5; line++) {
            check.due("3: full, line " + line, x.extend(line, (line + 6) % 8, 1), FULL);
            check.due("4: line " + line, x.trip(line, 100 * line), line);
        }
        for (int line = 0; line < 5; line++) {
            check.due("3: all of line " + line,
                    x.earliestWith(line, (line + 5) % 8, 100 * line, 1), 105 * line + 15);
        }
    }

    private static void extendRefuses() {
        RoundPlanner x = new RoundPlanner();
        x.line(2);
        for (int line : new int[] {-1, 1, 5, MIN, MAX}) {
            check.due("3: line " + line, x.extend(line, 3, 5), BAD_LINE);
        }
        for (int stop : new int[] {-1, 8, 2, MIN, MAX}) {
            check.due("3: stop " + stop, x.extend(0, stop, 5), BAD_STOP);
        }
        for (int minutes : new int[] {-1, 0, 31, MIN, MAX}) {
            check.due("3: minutes " + minutes, x.extend(0, 3, minutes), BAD_TIME);
        }
        check.due("3: nothing had changed", x.extend(0, 3, 5), 2);
        check.due("3: the last stop again", x.extend(0, 3, 5), BAD_STOP);
        check.due("3: the first stop again", x.extend(0, 2, 5), BAD_STOP);
    }

    private static void extendOrder() {
        RoundPlanner x = new RoundPlanner();
        x.line(2);
        x.trip(0, 0);
        check.due("12: line before stop", x.extend(1, 8, 31), BAD_LINE);
        check.due("12: stop before minutes", x.extend(0, 8, 31), BAD_STOP);
        check.due("12: stop on the line before minutes", x.extend(0, 2, 31), BAD_STOP);
        check.due("12: minutes before full", x.extend(0, 3, 31), BAD_TIME);
        check.due("3: the line has a trip", x.extend(0, 3, 30), FULL);
        check.due("12: stop on the line before full", x.extend(0, 2, 30), BAD_STOP);
        x.line(2);
        check.due("3: another line has none", x.extend(1, 3, 30), 2);
    }

    private static void refusedExtendChangesNothing() {
        RoundPlanner x = new RoundPlanner();
        x.line(0);
        x.extend(0, 1, 5);
        x.trip(0, 10);
        x.extend(0, 2, 5);
        x.extend(0, 1, 9);
        x.extend(0, 2, 31);
        check.due("3: refused, the time stays", x.earliest(0, 1, 0), 15);
        check.due("3: refused, no stop is added", x.earliest(0, 2, 0), NEVER);
    }

    private static void tripAnswers() {
        RoundPlanner x = new RoundPlanner();
        x.line(0);
        x.extend(0, 1, 7);
        x.line(2);
        x.extend(1, 3, 9);
        check.due("4: least start", x.trip(0, 0), 0);
        check.due("4: most start", x.trip(1, 500), 1);
        check.due("4: numbers go on over the lines", x.trip(0, 20), 2);
        check.due("4: the same start again", x.trip(0, 20), 3);
        check.due("4: it leaves at its start", x.earliest(0, 1, 0), 7);
        check.due("4: the next one", x.earliest(0, 1, 1), 27);
        check.due("4: of the other line", x.earliest(2, 3, 0), 509);
    }

    private static void tripRefuses() {
        RoundPlanner x = new RoundPlanner();
        x.line(0);
        x.extend(0, 1, 7);
        for (int line : new int[] {-1, 1, 5, MIN, MAX}) {
            check.due("4: line " + line, x.trip(line, 5), BAD_LINE);
        }
        for (int start : new int[] {-1, 501, MIN, MAX}) {
            check.due("4: start " + start, x.trip(0, start), BAD_TIME);
        }
        check.due("12: trip, line before start", x.trip(1, 501), BAD_LINE);
        check.due("4: refused, no trip is there", x.earliest(0, 1, 0), NEVER);
        check.due("4: refused, the line has no trips", x.extend(0, 2, 1), 3);
        for (int trip = 0; trip < 12; trip++) {
            check.due("4: nothing had changed", x.trip(0, 300), trip);
        }
        check.due("4: a thirteenth", x.trip(0, 5), FULL);
        check.due("12: trip, start before full", x.trip(0, 501), BAD_TIME);
        check.due("12: trip, line before full", x.trip(1, 5), BAD_LINE);
        check.due("4: the thirteenth is not there", x.earliest(0, 1, 0), 307);
        check.due("4: nor can it be moved", x.delay(12, 0), BAD_LINE);
        x.line(4);
        check.due("4: full over all lines", x.trip(1, 5), FULL);
        check.due("4: refused when full, the line has no trips", x.extend(1, 5, 1), 2);
    }

    private static void tripOfOneStop() {
        RoundPlanner x = new RoundPlanner();
        x.line(0);
        check.due("4: a trip of one stop", x.trip(0, 10), 0);
        check.due("3: which ends the line", x.extend(0, 1, 5), FULL);
        check.due("4: it can't be used", x.within(0, 0, 1000), 1);
        check.due("4: it can be moved", x.delay(0, 20), 10);
    }

    private static void footpathAnswers() {
        RoundPlanner x = new RoundPlanner();
        check.due("5: new", x.footpath(2, 5, 30), 0);
        check.due("5: there", x.earliest(2, 5, 100), 130);
        check.due("5: and back", x.earliest(5, 2, 100), 130);
        check.due("5: set the other way round", x.footpath(5, 2, 1), 30);
        check.due("5: there", x.earliest(2, 5, 100), 101);
        check.due("5: and back", x.earliest(5, 2, 100), 101);
        check.due("5: taken away", x.footpath(2, 5, 0), 1);
        check.due("5: not there", x.earliest(2, 5, 100), NEVER);
        check.due("5: nor back", x.earliest(5, 2, 100), NEVER);
        check.due("5: taken away again", x.footpath(5, 2, 0), 0);
        check.due("5: the outer stops", x.footpath(0, 7, 4), 0);
        check.due("5: the outer stops, old", x.footpath(7, 0, 5), 4);
        check.due("5: other pairs have none", x.within(7, 0, 1000), 2);
    }

    private static void footpathRefuses() {
        RoundPlanner x = new RoundPlanner();
        x.footpath(1, 2, 9);
        for (int stop : new int[] {-1, 8, MIN, MAX}) {
            check.due("5: a " + stop, x.footpath(stop, 2, 5), BAD_STOP);
            check.due("5: b " + stop, x.footpath(1, stop, 5), BAD_STOP);
            check.due("5: both " + stop, x.footpath(stop, stop, 5), BAD_STOP);
        }
        check.due("5: to itself", x.footpath(1, 1, 5), BAD_STOP);
        check.due("5: to itself, none", x.footpath(1, 1, 0), BAD_STOP);
        for (int minutes : new int[] {-1, 31, MIN, MAX}) {
            check.due("5: minutes " + minutes, x.footpath(1, 2, minutes), BAD_TIME);
            check.due("12: footpath, stop before minutes", x.footpath(1, 8, minutes), BAD_STOP);
            check.due("12: footpath, same stop before minutes", x.footpath(1, 1, minutes), BAD_STOP);
        }
        check.due("5: nothing had changed", x.footpath(1, 2, 8), 9);
    }

    private static void delayAnswers() {
        RoundPlanner x = new RoundPlanner();
        x.line(0);
        x.extend(0, 1, 7);
        x.trip(0, 50);
        x.trip(0, 60);
        check.due("6: later", x.delay(0, 500), 50);
        check.due("6: the other one stays", x.earliest(0, 1, 0), 67);
        check.due("6: it leaves later", x.earliest(0, 1, 61), 507);
        check.due("6: earlier", x.delay(0, 0), 500);
        check.due("6: it leaves earlier", x.earliest(0, 1, 0), 7);
        check.due("6: and no more later", x.earliest(0, 1, 61), NEVER);
        check.due("6: to where it is", x.delay(0, 0), 0);
        check.due("6: the second", x.delay(1, 1), 60);
    }

    private static void delayRefuses() {
        RoundPlanner x = new RoundPlanner();
        x.line(0);
        x.line(1);
        x.trip(0, 50);
        for (int trip : new int[] {-1, 1, 12, MIN, MAX}) {
            check.due("6: trip " + trip, x.delay(trip, 5), BAD_LINE);
            check.due("12: delay, trip before start", x.delay(trip, 501), BAD_LINE);
        }
        for (int start : new int[] {-1, 501, MIN, MAX}) {
            check.due("6: start " + start, x.delay(0, start), BAD_TIME);
        }
        check.due("6: nothing had changed", x.delay(0, 5), 50);
    }
}
