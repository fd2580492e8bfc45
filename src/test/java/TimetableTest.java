/** Promises 1 to 6 on ordinary inputs. */
public final class TimetableTest {
    private static final int BAD_LINE = RoundPlanner.BAD_LINE;
    private static final int NEVER = RoundPlanner.NEVER;

    private static final Check check = new Check();

    public static void main(String[] args) {
        objectsAreApart();
        lineAnswers();
        extendAnswers();
        fullTimetable();
        tripAnswers();
        footpathAnswers();
        delayAnswers();
        check.end();
    }

    private static void objectsAreApart() {
        RoundPlanner x = new RoundPlanner();
        RoundPlanner y = new RoundPlanner();
        x.line(0);
        x.trip(0, 3);
        x.footpath(0, 1, 3);
        check.due("1: the other has no line", y.trip(0, 1), BAD_LINE);
        check.due("1: the other has no trip", y.delay(0, 1), BAD_LINE);
        check.due("1: the other has no footpath", y.earliest(0, 1, 0), NEVER);
    }

    private static void lineAnswers() {
        RoundPlanner x = new RoundPlanner();
        check.due("2: first", x.line(0), 0);
        check.due("2: second", x.line(7), 1);
        check.due("2: the same stop again", x.line(7), 2);
        check.due("2: one stop so far", x.extend(1, 0, 4), 2);
        check.due("2: that is no stop of the next line", x.extend(2, 0, 4), 2);
    }

    private static void extendAnswers() {
        RoundPlanner x = new RoundPlanner();
        x.line(7);
        x.line(7);
        check.due("3", x.extend(0, 0, 1), 2);
        check.due("3", x.extend(0, 6, 30), 3);
        check.due("3: a stop of another line", x.extend(1, 0, 5), 2);
        check.due("3", x.extend(0, 1, 2), 4);
        check.due("3", x.extend(0, 2, 3), 5);
        check.due("3", x.extend(0, 3, 4), 6);
        x.trip(0, 100);
        int[] stops = {7, 0, 6, 1, 2, 3};
        int[] times = {100, 101, 131, 133, 136, 140};
        for (int i = 0; i < 6; i++) {
            check.due("3: to " + stops[i], x.earliest(7, stops[i], 100), times[i]);
        }
    }

    private static void fullTimetable() {
        RoundPlanner x = Timetables.longLines();
        for (int line = 0; line < 5; line++) {
            check.due("4: line " + line, x.trip(line, 100 * line), line);
        }
        for (int line = 0; line < 5; line++) {
            check.due("3: all of line " + line,
                    x.earliestWith(line, (line + 5) % 8, 100 * line, 1), 105 * line + 15);
        }
    }

    private static void tripAnswers() {
        RoundPlanner x = new RoundPlanner();
        x.line(0);
        x.extend(0, 1, 7);
        x.line(2);
        x.extend(1, 3, 9);
        check.due("4: first", x.trip(0, 0), 0);
        check.due("4: of another line", x.trip(1, 500), 1);
        check.due("4: numbers go on over the lines", x.trip(0, 20), 2);
        check.due("4: the same start again", x.trip(0, 20), 3);
        check.due("4: it leaves at its start", x.earliest(0, 1, 0), 7);
        check.due("4: the next one", x.earliest(0, 1, 1), 27);
        check.due("4: of the other line", x.earliest(2, 3, 0), 509);
    }

    private static void footpathAnswers() {
        RoundPlanner x = new RoundPlanner();
        check.due("5: new", x.footpath(2, 5, 12), 0);
        check.due("5: there", x.earliest(2, 5, 100), 112);
        check.due("5: and back", x.earliest(5, 2, 100), 112);
        check.due("5: set the other way round", x.footpath(5, 2, 4), 12);
        check.due("5: there", x.earliest(2, 5, 100), 104);
        check.due("5: and back", x.earliest(5, 2, 100), 104);
        check.due("5: other pairs have none", x.within(2, 0, 1000), 2);
    }

    private static void delayAnswers() {
        RoundPlanner x = new RoundPlanner();
        x.line(0);
        x.extend(0, 1, 7);
        x.trip(0, 50);
        x.trip(0, 60);
        check.due("6: later", x.delay(0, 500), 50);
        check.due("6: the other one stays", x.earliest(0, 1, 0), 67);
        check.due("6: it leaves later", x.earliest(0, 1, 61), 507);
        check.due("6: earlier", x.delay(0, 0), 500);
        check.due("6: it leaves earlier", x.earliest(0, 1, 0), 7);
        check.due("6: and no more later", x.earliest(0, 1, 61), NEVER);
        check.due("6: to where it is", x.delay(0, 0), 0);
        check.due("6: the second", x.delay(1, 1), 60);
    }
}
