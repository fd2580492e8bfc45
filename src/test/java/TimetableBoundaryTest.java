import java.util.function.Supplier;

/**
 * Promises 1 to 6 and, for their calls, 12: each sentence that names a boundary has a method
 * here, with the last value that is allowed and the first that isn't, on both sides.
 */
public final class TimetableBoundaryTest {
    private static final int BAD_STOP = RoundPlanner.BAD_STOP;
    private static final int BAD_LINE = RoundPlanner.BAD_LINE;
    private static final int BAD_TIME = RoundPlanner.BAD_TIME;
    private static final int FULL = RoundPlanner.FULL;
    private static final int NEVER = RoundPlanner.NEVER;
    private static final int MIN = Integer.MIN_VALUE;
    private static final int MAX = Integer.MAX_VALUE;

    private static final int[] NO_STOPS = {-1, 8, MIN, MAX};
    private static final int[] NO_STARTS = {-1, 501, MIN, MAX};

    private static final Check check = new Check();

    public static void main(String[] args) {
        newObjectHasNoLines();
        newObjectHasNoTrips();
        newObjectHasNoFootpaths();
        lineStopNotIn0To7();
        lineThereAreFiveLines();
        lineHasOneStopSoFar();
        extendLineDoesNotExist();
        extendStopNotIn0To7();
        extendStopOnThisLineAlready();
        extendMinutesNotIn1To30();
        extendLineHasSixStops();
        extendLineHasTrips();
        tripLineDoesNotExist();
        tripStartNotIn0To500();
        tripThereAreTwelveTrips();
        tripOfALineWithOneStop();
        footpathStopsNotIn0To7();
        footpathToTheSameStop();
        footpathMinutesNotIn0To30();
        footpathTakenAway();
        footpathOldTime();
        delayThereIsNoSuchTrip();
        delayStartNotIn0To500();
        orderInLine();
        orderInExtend();
        orderInTrip();
        orderInFootpath();
        orderInDelay();
        check.end();
    }

    private static void newObjectHasNoLines() {
        for (int line = 0; line < 5; line++) {
            int number = line;
            check.changesNothing("1: extend " + line, RoundPlanner::new, x -> x.extend(number, 1, 1), BAD_LINE);
            check.changesNothing("1: trip " + line, RoundPlanner::new, x -> x.trip(number, 1), BAD_LINE);
        }
        RoundPlanner x = new RoundPlanner();
        for (int line = 0; line < 5; line++) {
            check.due("1: there is room for five", x.line(0), line);
        }
    }

    private static void newObjectHasNoTrips() {
        for (int trip = 0; trip < 12; trip++) {
            int number = trip;
            check.changesNothing("1: delay " + trip, RoundPlanner::new, x -> x.delay(number, 1), BAD_LINE);
        }
        RoundPlanner x = Timetables.lines(1);
        for (int trip = 0; trip < 12; trip++) {
            check.due("1: there is room for twelve", x.trip(0, 0), trip);
        }
    }

    private static void newObjectHasNoFootpaths() {
        RoundPlanner x = new RoundPlanner();
        for (int a = 0; a < 8; a++) {
            check.due("1: only " + a + " itself", x.within(a, 0, 1000), 1);
            for (int b = 0; b < 8; b++) {
                check.due("1: from " + a + " to " + b, x.earliest(a, b, 5), a == b ? 5 : NEVER);
                check.due("1: none to take away, " + a + " " + b, x.footpath(a, b, 0), a == b ? BAD_STOP : 0);
            }
        }
    }

    private static void lineStopNotIn0To7() {
        for (int stop = 0; stop < 8; stop++) {
            RoundPlanner x = new RoundPlanner();
            check.due("2: line " + stop, x.line(stop), 0);
            check.due("2: it begins there", x.extend(0, stop, 1), BAD_STOP);
        }
        for (Supplier<RoundPlanner> made : Timetables.ALL) {
            for (int stop : NO_STOPS) {
                check.changesNothing("2: line " + stop, made, x -> x.line(stop), BAD_STOP);
            }
        }
    }

    private static void lineThereAreFiveLines() {
        for (int count = 0; count < 5; count++) {
            check.due("2: after " + count, Timetables.lines(count).line(7), count);
        }
        for (int stop = 0; stop < 8; stop++) {
            int begin = stop;
            check.changesNothing("2: a sixth, short ones", () -> Timetables.lines(5), x -> x.line(begin), FULL);
            check.changesNothing("2: a sixth, long ones", Timetables::full, x -> x.line(begin), FULL);
        }
        RoundPlanner x = Timetables.lines(5);
        check.due("2: there is no sixth", x.trip(5, 0), BAD_LINE);
        check.due("2: the fifth is there", x.trip(4, 0), 0);
    }

    private static void lineHasOneStopSoFar() {
        RoundPlanner x = Timetables.longLines();
        check.due("2: others are long already", x.extend(0, 7, 1), FULL);
        RoundPlanner y = new RoundPlanner();
        for (int line = 0; line < 5; line++) {
            y.line(3);
            check.due("2: line " + line, y.extend(line, 4, 1), 2);
        }
    }

    private static void extendLineDoesNotExist() {
        for (int count = 0; count <= 5; count++) {
            int lines = count;
            for (int line : new int[] {MIN, -1, count, 6, MAX}) {
                check.changesNothing("3: line " + line + " of " + count,
                        () -> Timetables.lines(lines), x -> x.extend(line, 7, 1), BAD_LINE);
            }
            for (int line = 0; line < count; line++) {
                check.due("3: line " + line + " of " + count, Timetables.lines(count).extend(line, 7, 1), 2);
            }
        }
    }

    private static void extendStopNotIn0To7() {
        for (int stop = 0; stop < 8; stop++) {
            RoundPlanner x = new RoundPlanner();
            int begin = stop == 4 ? 3 : 4;
            x.line(begin);
            check.due("3: stop " + stop, x.extend(0, stop, 9), 2);
            x.trip(0, 50);
            check.due("3: the line goes there", x.earliest(begin, stop, 0), 59);
        }
        for (int stop : NO_STOPS) {
            check.changesNothing("3: stop " + stop, Timetables::some, x -> x.extend(1, stop, 9), BAD_STOP);
        }
    }

    private static void extendStopOnThisLineAlready() {
        for (int line = 0; line < 5; line++) {
            for (int i = 0; i < 8; i++) {
                int number = line;
                int stop = (line + i) % 8;
                check.changesNothing("3: stop " + stop + " on line " + line, Timetables::longLines,
                        x -> x.extend(number, stop, 1), i < 6 ? BAD_STOP : FULL);
            }
        }
        for (int stop : new int[] {3, 4}) {
            check.changesNothing("3: first or last of two", Timetables::some, x -> x.extend(2, stop, 1), BAD_STOP);
            check.due("3: on another line alone", Timetables.some().extend(1, stop, 1), 2);
        }
        check.changesNothing("3: the only stop", Timetables::some, x -> x.extend(1, 7, 1), BAD_STOP);
        check.due("3: 0 is not on a line until it is put there", Timetables.some().extend(2, 0, 1), 3);
    }

    private static void extendMinutesNotIn1To30() {
        for (int minutes : new int[] {1, 2, 29, 30}) {
            RoundPlanner x = Timetables.some();
            check.due("3: minutes " + minutes, x.extend(2, 5, minutes), 3);
            x.trip(2, 500);
            check.due("3: it takes them", x.earliest(4, 5, 507), 507 + minutes);
        }
        for (int minutes : new int[] {0, 31, -1, -30, MIN, MAX}) {
            check.changesNothing("3: minutes " + minutes, Timetables::some, x -> x.extend(2, 5, minutes), BAD_TIME);
        }
    }

    private static void extendLineHasSixStops() {
        for (int line = 0; line < 5; line++) {
            RoundPlanner x = Timetables.lines(5);
            for (int i = 1; i < 6; i++) {
                check.due("3: stretch " + i + " of line " + line, x.extend(line, (line + i) % 8, 30), i + 1);
            }
            check.due("3: a seventh stop", x.extend(line, (line + 6) % 8, 30), FULL);
            x.trip(line, 500);
            check.due("3: the sixth is reached", x.earliest(line, (line + 5) % 8, 500), 650);
            check.due("3: the seventh isn't", x.earliest(line, (line + 6) % 8, 500), NEVER);
            int number = line;
            check.changesNothing("3: a seventh, line " + line, Timetables::longLines,
                    y -> y.extend(number, (number + 7) % 8, 1), FULL);
        }
    }

    private static RoundPlanner lineWithATrip(int stops) {
        RoundPlanner x = Timetables.lines(2);
        for (int stop = 1; stop < stops; stop++) {
            x.extend(0, stop, 2);
        }
        x.trip(0, 9);
        return x;
    }

    private static void extendLineHasTrips() {
        for (int stops = 1; stops <= 6; stops++) {
            int count = stops;
            check.changesNothing("3: trips and " + stops + " stops", () -> lineWithATrip(count),
                    x -> x.extend(0, 7, 1), FULL);
            check.due("3: the trip is of another line", lineWithATrip(stops).extend(1, 7, 1), 2);
        }
        RoundPlanner x = lineWithATrip(2);
        x.delay(0, 500);
        check.due("3: a moved trip is still its own", x.extend(0, 7, 1), FULL);
        x.trip(0, 3);
        check.due("3: two trips", x.extend(0, 7, 1), FULL);
    }

    private static void tripLineDoesNotExist() {
        for (int count = 0; count <= 5; count++) {
            int lines = count;
            for (int line : new int[] {MIN, -1, count, 6, MAX}) {
                check.changesNothing("4: line " + line + " of " + count,
                        () -> Timetables.lines(lines), x -> x.trip(line, 5), BAD_LINE);
            }
            for (int line = 0; line < count; line++) {
                check.due("4: line " + line + " of " + count, Timetables.lines(count).trip(line, 5), 0);
            }
        }
    }

    private static void tripStartNotIn0To500() {
        for (int start : new int[] {0, 1, 499, 500}) {
            RoundPlanner x = Timetables.trips(0);
            check.due("4: start " + start, x.trip(0, start), 0);
            check.due("4: it leaves then", x.earliest(0, 1, start), start + 5);
            check.due("4: and not later", x.earliest(0, 1, start + 1), NEVER);
        }
        for (int start : NO_STARTS) {
            check.changesNothing("4: start " + start, () -> Timetables.trips(0), x -> x.trip(0, start), BAD_TIME);
            check.changesNothing("4: start " + start, Timetables::some, x -> x.trip(2, start), BAD_TIME);
        }
        RoundPlanner x = Timetables.trips(0);
        x.trip(0, 501);
        check.due("4: a line without trips can still be extended", x.extend(0, 2, 1), 3);
    }

    private static void tripThereAreTwelveTrips() {
        for (int count = 0; count < 12; count++) {
            check.due("4: after " + count, Timetables.trips(count).trip(0, 300), count);
        }
        check.changesNothing("4: a thirteenth", () -> Timetables.trips(12), x -> x.trip(0, 0), FULL);
        for (int line = 0; line < 5; line++) {
            int number = line;
            check.changesNothing("4: a thirteenth, line " + line, Timetables::full, x -> x.trip(number, 0), FULL);
        }
        RoundPlanner x = Timetables.trips(12);
        check.due("4: the twelfth is there", x.earliest(0, 1, 120), 125);
        x.trip(0, 500);
        check.due("4: the thirteenth isn't", x.earliest(0, 1, 121), NEVER);
        check.due("4: nor can it be moved", x.delay(12, 0), BAD_LINE);
        x.line(4);
        check.due("4: the twelve are over all lines", x.trip(1, 5), FULL);
        check.due("4: so that line has no trips", x.extend(1, 5, 1), 2);
    }

    private static void tripOfALineWithOneStop() {
        RoundPlanner x = Timetables.lines(5);
        for (int trip = 0; trip < 12; trip++) {
            check.due("4: it has a number", x.trip(trip % 5, 10 * trip), trip);
        }
        check.due("4: and counts among the twelve", x.trip(0, 10), FULL);
        for (int stop = 0; stop < 8; stop++) {
            check.due("4: it can't be used from " + stop, x.within(stop, 0, 1000), 1);
        }
        x.footpath(0, 1, 4);
        check.due("4: one walks to it in vain", x.within(0, 0, 1000), 2);
        check.due("4: and needs no ride", x.rides(0, 1, 0), 0);
        check.due("4: it can be moved", x.delay(11, 20), 110);
    }

    private static void footpathStopsNotIn0To7() {
        for (int a = 0; a < 8; a++) {
            for (int b = 0; b < 8; b++) {
                RoundPlanner x = new RoundPlanner();
                check.due("5: footpath " + a + " " + b, x.footpath(a, b, 9), a == b ? BAD_STOP : 0);
                check.due("5: it leads there", x.earliest(a, b, 3), a == b ? 3 : 12);
                check.due("5: and to no other stop", x.within(a, 0, 1000), a == b ? 1 : 2);
            }
        }
        for (int stop : NO_STOPS) {
            for (int other : new int[] {0, 7, stop}) {
                for (Supplier<RoundPlanner> made : Timetables.ALL) {
                    check.changesNothing("5: a " + stop, made, x -> x.footpath(stop, other, 5), BAD_STOP);
                    check.changesNothing("5: b " + stop, made, x -> x.footpath(other, stop, 5), BAD_STOP);
                }
            }
        }
    }

    private static void footpathToTheSameStop() {
        for (int stop = 0; stop < 8; stop++) {
            int same = stop;
            for (int minutes : new int[] {0, 1, 30}) {
                check.changesNothing("5: to itself " + stop + ", " + minutes, Timetables::some,
                        x -> x.footpath(same, same, minutes), BAD_STOP);
            }
        }
    }

    private static void footpathMinutesNotIn0To30() {
        for (int minutes : new int[] {1, 2, 29, 30}) {
            RoundPlanner x = new RoundPlanner();
            check.due("5: minutes " + minutes, x.footpath(1, 2, minutes), 0);
            check.due("5: it takes them", x.earliest(1, 2, 0), minutes);
        }
        for (Supplier<RoundPlanner> made : Timetables.ALL) {
            for (int minutes : new int[] {-1, 31, MIN, MAX}) {
                check.changesNothing("5: minutes " + minutes, made, x -> x.footpath(2, 3, minutes), BAD_TIME);
            }
        }
    }

    private static void footpathTakenAway() {
        RoundPlanner x = new RoundPlanner();
        check.due("5: 0 where there is none", x.footpath(2, 5, 0), 0);
        check.due("5: there is still none", x.earliest(2, 5, 100), NEVER);
        x.footpath(2, 5, 30);
        x.footpath(2, 6, 30);
        check.due("5: taken away from its other end", x.footpath(5, 2, 0), 30);
        check.due("5: not there", x.earliest(2, 5, 100), NEVER);
        check.due("5: nor back", x.earliest(5, 2, 100), NEVER);
        check.due("5: another one stays", x.earliest(2, 6, 100), 130);
        check.due("5: set again", x.footpath(2, 5, 1), 0);
        check.due("5: there again", x.earliest(2, 5, 100), 101);
    }

    private static void footpathOldTime() {
        RoundPlanner x = new RoundPlanner();
        check.due("5: none", x.footpath(0, 7, 1), 0);
        check.due("5: the least", x.footpath(0, 7, 30), 1);
        check.due("5: the most, from the other end", x.footpath(7, 0, 30), 30);
        check.due("5: as it was", x.footpath(7, 0, 0), 30);
        check.due("5: none any more", x.footpath(0, 7, 0), 0);
    }

    private static void delayThereIsNoSuchTrip() {
        for (int count = 0; count <= 12; count++) {
            int trips = count;
            for (int trip : new int[] {MIN, -1, count, 13, MAX}) {
                check.changesNothing("6: trip " + trip + " of " + count,
                        () -> Timetables.trips(trips), x -> x.delay(trip, 5), BAD_LINE);
            }
            RoundPlanner x = Timetables.trips(count);
            for (int trip = 0; trip < count; trip++) {
                check.due("6: trip " + trip + " of " + count, x.delay(trip, 5), 10 + 10 * trip);
            }
        }
    }

    private static void delayStartNotIn0To500() {
        for (int start : new int[] {0, 1, 499, 500}) {
            RoundPlanner x = Timetables.trips(1);
            check.due("6: start " + start, x.delay(0, start), 10);
            check.due("6: it leaves then", x.earliest(0, 1, start), start + 5);
            check.due("6: and not later", x.earliest(0, 1, start + 1), NEVER);
            check.due("6: that is its old start", x.delay(0, 7), start);
        }
        for (int start : NO_STARTS) {
            check.changesNothing("6: start " + start, Timetables::some, x -> x.delay(1, start), BAD_TIME);
            check.changesNothing("6: start " + start, Timetables::full, x -> x.delay(11, start), BAD_TIME);
        }
    }

    /** Of faults that stand in the order of their tests, the first one; 'right' if all are 0. */
    private static int first(int right, int... faults) {
        for (int fault : faults) {
            if (fault != 0) {
                return fault;
            }
        }
        return right;
    }

    private static void orderInLine() {
        for (int stop : new int[] {-1, 3, 8}) {
            int fault = stop == 3 ? 0 : BAD_STOP;
            check.due("12: line " + stop + " with room", Timetables.lines(4).line(stop), first(4, fault));
            check.due("12: line " + stop + ", full", Timetables.lines(5).line(stop), first(5, fault, FULL));
        }
    }

    // Of the lines made here, 0 has room, 1 has six stops, 2 has a trip, 3 has both.
    private static RoundPlanner linesOfAllKinds() {
        RoundPlanner x = new RoundPlanner();
        for (int line = 0; line < 4; line++) {
            x.line(0);
            x.extend(line, 1, 1);
            for (int stop = 2; line % 2 == 1 && stop < 6; stop++) {
                x.extend(line, stop, 1);
            }
        }
        x.trip(2, 0);
        x.trip(3, 0);
        return x;
    }

    private static void orderInExtend() {
        for (int line = -1; line <= 4; line++) {
            for (int stop : new int[] {-1, 0, 1, 7, 8}) {
                for (int minutes : new int[] {0, 1, 30, 31}) {
                    int want = first(3,
                            line < 0 || line > 3 ? BAD_LINE : 0,
                            stop == 7 ? 0 : BAD_STOP,
                            minutes == 0 || minutes == 31 ? BAD_TIME : 0,
                            line == 0 ? 0 : FULL);
                    check.due("12: extend " + line + " " + stop + " " + minutes,
                            linesOfAllKinds().extend(line, stop, minutes), want);
                }
            }
        }
    }

    private static void orderInTrip() {
        for (int count : new int[] {0, 11, 12}) {
            for (int line = -1; line <= 1; line++) {
                for (int start : new int[] {-1, 0, 500, 501}) {
                    int want = first(count,
                            line == 0 ? 0 : BAD_LINE,
                            start < 0 || start > 500 ? BAD_TIME : 0,
                            count == 12 ? FULL : 0);
                    check.due("12: trip " + line + " " + start + " after " + count,
                            Timetables.trips(count).trip(line, start), want);
                }
            }
        }
    }

    private static void orderInFootpath() {
        for (int a : new int[] {-1, 0, 7, 8}) {
            for (int b : new int[] {-1, 0, 7, 8}) {
                for (int minutes : new int[] {-1, 0, 30, 31}) {
                    boolean apart = a + b == 7 && a >= 0 && b >= 0;
                    int want = first(30,
                            apart ? 0 : BAD_STOP,
                            minutes == -1 || minutes == 31 ? BAD_TIME : 0);
                    check.due("12: footpath " + a + " " + b + " " + minutes,
                            Timetables.some().footpath(a, b, minutes), want);
                }
            }
        }
    }

    private static void orderInDelay() {
        for (int trip = -1; trip <= 1; trip++) {
            for (int start : new int[] {-1, 0, 500, 501}) {
                int want = first(10,
                        trip == 0 ? 0 : BAD_LINE,
                        start < 0 || start > 500 ? BAD_TIME : 0);
                check.due("12: delay " + trip + " " + start, Timetables.trips(1).delay(trip, start), want);
            }
        }
    }
}
