import java.util.List;
import java.util.Map;
import java.util.TreeMap;
import java.util.function.Supplier;
import java.util.function.ToIntFunction;

/**
 * "What it is", "Terms", promises 7 to 11, and 12 for within: each sentence that names a boundary
 * has a method here, with the last value that is allowed and the first that isn't, on both sides.
 */
public final class JourneyBoundaryTest {
    private static final int BAD_STOP = RoundPlanner.BAD_STOP;
    private static final int BAD_TIME = RoundPlanner.BAD_TIME;
    private static final int FULL = RoundPlanner.FULL;
    private static final int NEVER = RoundPlanner.NEVER;
    private static final int MIN = Integer.MIN_VALUE;
    private static final int MAX = Integer.MAX_VALUE;

    private static final int[] NO_STOPS = {-1, 8, MIN, MAX};
    private static final int[] NO_TIMES = {-1, 1001, MIN, MAX};

    private interface Query {
        int ask(RoundPlanner x, int a, int b, int t);
    }

    private static final Map<String, Query> FROM_A_TO_B = new TreeMap<>(Map.of(
            "7: earliest", RoundPlanner::earliest,
            "8: earliestWith no ride", (x, a, b, t) -> x.earliestWith(a, b, t, MIN),
            "8: earliestWith all rides", (x, a, b, t) -> x.earliestWith(a, b, t, MAX),
            "9: rides", RoundPlanner::rides,
            "10: latest", RoundPlanner::latest));

    private static final Map<String, Query> FROM_A = new TreeMap<>(Map.of(
            "11: within, t", (x, a, b, t) -> x.within(a, t, 1000),
            "11: within, until", (x, a, b, t) -> x.within(a, 0, t),
            "11: within, both", (x, a, b, t) -> x.within(a, t, t)));

    private static final Check check = new Check();

    public static void main(String[] args) {
        usedFor512Calls();
        laterCallsEnd();
        stopNotIn0To7();
        timeNotIn0To1000();
        stopBeforeTime();
        queriesChangeNothing();
        queriesLeaveNothingToTheNext();
        boardedAndLeftAtWhichStops();
        notBoardedBeforeOneIsThere();
        withoutRides();
        notTwoFootpaths();
        neverIfThereIsNone();
        firstAndLastArrivals();
        ridesBelow0CountAs0();
        ridesAbove12CountAs12();
        oneRideTooFew();
        leastRidesAreNone();
        leastRidesOfEqualArrivals();
        latestIs0();
        latestIs1000();
        latestIsAnyTimeBetween();
        latestByTimeOrBefore();
        withinUntilNotIn0To1000();
        withinUntilOrBefore();
        withinAItself();
        withinAllStops();
        check.end();
    }

    /** Calls on the timetable of oneLine that leave it as it is, whatever their answers. */
    private static List<ToIntFunction<RoundPlanner>> idleCalls() {
        return List.of(x -> x.line(8), x -> x.extend(0, 3, 5), x -> x.trip(0, 501), x -> x.trip(1, 0),
                x -> x.footpath(3, 3, 1), x -> x.footpath(3, 4, 0), x -> x.delay(2, 1), x -> x.delay(0, 40),
                x -> x.earliest(0, 2, 0), x -> x.earliestWith(0, 2, 0, 0), x -> x.rides(2, 0, 0),
                x -> x.latest(0, 2, 1000), x -> x.within(1, 0, 1000));
    }

    private static void usedFor512Calls() {
        for (ToIntFunction<RoundPlanner> idle : idleCalls()) {
            Supplier<RoundPlanner> used = () -> {
                RoundPlanner x = Timetables.oneLine();
                for (int call = 6; call < 512; call++) {
                    idle.applyAsInt(x);
                }
                return x;
            };
            check.due("512th: line", used.get().line(7), 1);
            check.due("512th: extend", used.get().extend(0, 3, 5), FULL);
            check.due("512th: trip", used.get().trip(0, 500), 2);
            check.due("512th: footpath", used.get().footpath(0, 7, 30), 0);
            check.due("512th: delay", used.get().delay(1, 0), 20);
            check.due("512th: earliest", used.get().earliest(0, 2, 21), 55);
            check.due("512th: earliestWith", used.get().earliestWith(0, 2, 20, 1), 35);
            check.due("512th: rides", used.get().rides(0, 2, 20), 1);
            check.due("512th: latest", used.get().latest(0, 2, 54), 20);
            check.due("512th: within", used.get().within(0, 20, 35), 3);
        }
    }

    // What they answer is free, but by rule 7 of LANGUAGE.md no call may throw or fail to end.
    private static void laterCallsEnd() {
        RoundPlanner x = Timetables.full();
        int[] values = {MIN, -1, 0, 4, 5, 7, 8, 12, 500, 1000, 1001, MAX};
        int calls = 0;
        for (int a : values) {
            for (int b : values) {
                for (int c : values) {
                    x.line(a);
                    x.extend(a, b, c);
                    x.trip(a, b);
                    x.footpath(a, b, c);
                    x.delay(a, b);
                    x.earliest(a, b, c);
                    x.earliestWith(a, b, c, a);
                    x.rides(a, b, c);
                    x.latest(a, b, c);
                    x.within(a, b, c);
                    calls += 10;
                }
            }
        }
        check.holds("all calls ended", calls == 17280);
    }

    private static void stopNotIn0To7() {
        FROM_A_TO_B.forEach((name, query) -> {
            for (int stop : NO_STOPS) {
                check.due(name + ", a " + stop, query.ask(Timetables.full(), stop, 7, 5), BAD_STOP);
                check.due(name + ", b " + stop, query.ask(Timetables.full(), 7, stop, 5), BAD_STOP);
                check.due(name + ", both " + stop, query.ask(Timetables.full(), stop, stop, 5), BAD_STOP);
            }
        });
        FROM_A.forEach((name, query) -> {
            for (int stop : NO_STOPS) {
                check.due(name + ", a " + stop, query.ask(Timetables.full(), stop, 7, 5), BAD_STOP);
            }
        });
        for (int a = 0; a < 8; a++) {
            for (int b = 0; b < 8; b++) {
                RoundPlanner x = new RoundPlanner();
                x.footpath(a, b, 9);
                int minutes = a == b ? 0 : 9;
                check.due("7: from " + a + " to " + b, x.earliest(a, b, 50), 50 + minutes);
                check.due("8: from " + a + " to " + b, x.earliestWith(a, b, 50, 3), 50 + minutes);
                check.due("9: from " + a + " to " + b, x.rides(a, b, 50), 0);
                check.due("10: from " + a + " to " + b, x.latest(a, b, 50), 50 - minutes);
                check.due("11: from " + a, x.within(a, 50, 59), a == b ? 1 : 2);
            }
        }
    }

    private static void timeNotIn0To1000() {
        for (Map<String, Query> queries : List.of(FROM_A_TO_B, FROM_A)) {
            queries.forEach((name, query) -> {
                for (int t : NO_TIMES) {
                    check.due(name + " " + t, query.ask(Timetables.full(), 0, 7, t), BAD_TIME);
                    check.due(name + " " + t + ", nowhere to go", query.ask(new RoundPlanner(), 0, 7, t), BAD_TIME);
                    check.due(name + " " + t + ", same stop", query.ask(new RoundPlanner(), 3, 3, t), BAD_TIME);
                }
            });
        }
        RoundPlanner x = new RoundPlanner();
        x.footpath(0, 7, 30);
        for (int t : new int[] {0, 1, 999, 1000}) {
            check.due("7: t " + t, x.earliest(0, 7, t), t + 30);
            check.due("8: t " + t, x.earliestWith(0, 7, t, 1), t + 30);
            check.due("9: t " + t, x.rides(0, 7, t), 0);
            check.due("10: t " + t, x.latest(0, 7, t), t < 30 ? NEVER : t - 30);
            check.due("11: t " + t, x.within(0, t, 1000), t < 30 ? 2 : 1);
            check.due("11: until " + t, x.within(0, 0, t), t < 30 ? 1 : 2);
        }
    }

    private static void stopBeforeTime() {
        for (int stop : NO_STOPS) {
            for (int t : NO_TIMES) {
                FROM_A_TO_B.forEach((name, query) -> {
                    check.due(name + ", a before t", query.ask(Timetables.some(), stop, 0, t), BAD_STOP);
                    check.due(name + ", b before t", query.ask(Timetables.some(), 0, stop, t), BAD_STOP);
                });
                FROM_A.forEach((name, query) ->
                        check.due(name + ", a before it", query.ask(Timetables.some(), stop, 0, t), BAD_STOP));
            }
        }
    }

    private static void queriesChangeNothing() {
        int[][] arguments = {{0, 2, 0}, {0, 2, 1000}, {2, 0, 20}, {7, 7, 5}, {8, 0, 5}, {0, -1, 5}, {0, 2, 1001}};
        for (Supplier<RoundPlanner> made : Timetables.ALL) {
            for (Map<String, Query> queries : List.of(FROM_A_TO_B, FROM_A)) {
                queries.forEach((name, query) -> {
                    for (int[] each : arguments) {
                        ToIntFunction<RoundPlanner> call = x -> query.ask(x, each[0], each[1], each[2]);
                        int want = call.applyAsInt(made.get());
                        check.changesNothing(name + " " + each[0] + " " + each[1] + " " + each[2], made, call, want);
                    }
                });
            }
        }
    }

    private static void queriesLeaveNothingToTheNext() {
        RoundPlanner x = Timetables.oneLine();
        x.footpath(2, 3, 4);
        for (int round = 0; round < 2; round++) {
            check.due("7: again", x.earliest(0, 3, 0), 39);
            check.due("11: again", x.within(0, 0, 39), 4);
            check.due("10: again", x.latest(0, 3, 1000), 40);
            check.due("8: again", x.earliestWith(0, 3, 0, 0), NEVER);
            check.due("9: again", x.rides(0, 3, 0), 1);
            check.due("7: elsewhere", x.earliest(3, 2, 9), 13);
        }
    }

    // Six stops, which the trip leaves at these times: at all but the last it can be boarded,
    // up to the minute in which it is there, and it can be left at each later one.
    private static void boardedAndLeftAtWhichStops() {
        int[] times = {100, 101, 103, 106, 110, 115};
        RoundPlanner x = Timetables.longLines();
        x.trip(0, 100);
        for (int on = 0; on < 6; on++) {
            check.due("terms: later stops than " + on, x.within(on, times[on], 1000), 6 - on);
            check.due("terms: missed at " + on, x.within(on, times[on] + 1, 1000), 1);
            for (int off = 0; off < 6; off++) {
                String way = "terms: from " + on + " to " + off;
                boolean later = off > on;
                if (off == on) {
                    continue;
                }
                check.due(way, x.earliest(on, off, 0), later ? times[off] : NEVER);
                check.due(way + ", just", x.earliest(on, off, times[on]), later ? times[off] : NEVER);
                check.due(way + ", missed", x.earliest(on, off, times[on] + 1), NEVER);
                check.due(way + ", rides", x.rides(on, off, times[on]), later ? 1 : NEVER);
                check.due(way + ", latest", x.latest(on, off, times[off]), later ? times[on] : NEVER);
                check.due(way + ", a minute before", x.latest(on, off, times[off] - 1), NEVER);
            }
        }
    }

    // At 0 by a footpath, at 1 by a trip, at 3 by a footpath behind a trip: each time the next
    // trip leaves in the minute in which one is there, or one minute before.
    private static void notBoardedBeforeOneIsThere() {
        RoundPlanner x = new RoundPlanner();
        int[][] lines = {{0, 1, 20}, {1, 2, 30}, {3, 4, 36}};
        for (int line = 0; line < 3; line++) {
            x.line(lines[line][0]);
            x.extend(line, lines[line][1], 10);
            x.trip(line, lines[line][2]);
        }
        x.footpath(5, 0, 8);
        x.footpath(1, 3, 6);
        check.due("terms: just there on foot", x.earliest(5, 1, 12), 30);
        check.due("terms: a minute late on foot", x.earliest(5, 1, 13), NEVER);
        check.due("10: just there on foot", x.latest(5, 1, 1000), 12);
        check.due("terms: just there by a trip", x.earliest(5, 2, 12), 40);
        check.due("terms: just there on foot from a trip", x.earliest(5, 4, 12), 46);
        check.due("9: two rides", x.rides(5, 4, 12), 2);
        x.delay(1, 29);
        x.delay(2, 35);
        check.due("terms: a minute late by a trip", x.earliest(5, 2, 0), NEVER);
        check.due("terms: a minute late on foot from a trip", x.earliest(5, 4, 0), NEVER);
        check.due("9: a minute late", x.rides(5, 4, 0), NEVER);
        check.due("10: a minute late", x.latest(5, 4, 1000), NEVER);
    }

    private static void withoutRides() {
        RoundPlanner x = new RoundPlanner();
        x.footpath(3, 4, 30);
        for (int rides : new int[] {0, 12}) {
            check.due("terms: b is a itself", x.earliestWith(3, 3, 8, rides), 8);
            check.due("terms: one walks there", x.earliestWith(3, 4, 8, rides), 38);
            check.due("terms: and back", x.earliestWith(4, 3, 8, rides), 38);
            check.due("terms: else there is none", x.earliestWith(3, 5, 8, rides), NEVER);
        }
    }

    private static void notTwoFootpaths() {
        RoundPlanner x = Timetables.oneLine();
        x.footpath(5, 6, 1);
        x.footpath(6, 0, 1);
        x.footpath(2, 3, 1);
        x.footpath(3, 4, 1);
        check.due("terms: one before and one behind", x.earliest(6, 3, 0), 36);
        check.due("terms: not two without a ride", x.earliest(5, 0, 0), NEVER);
        check.due("terms: not two before a ride", x.earliest(5, 2, 0), NEVER);
        check.due("terms: not two behind a ride", x.earliest(0, 4, 0), NEVER);
        check.due("9: not two", x.rides(5, 2, 0), NEVER);
        check.due("10: not two", x.latest(0, 4, 1000), NEVER);
        check.due("11: not two", x.within(0, 0, 1000), 5);
        x.line(4);
        x.extend(1, 7, 1);
        x.trip(1, 300);
        check.due("terms: not two between rides", x.earliest(0, 7, 0), NEVER);
        x.footpath(2, 4, 1);
        check.due("terms: one between rides", x.earliest(0, 7, 0), 301);
        x.footpath(0, 1, 2);
        x.footpath(0, 2, 30);
        x.footpath(1, 2, 2);
        check.due("terms: two short ones are no long one", x.earliestWith(0, 2, 0, 0), 30);
    }

    private static void neverIfThereIsNone() {
        RoundPlanner x = Timetables.oneLine();
        FROM_A_TO_B.forEach((name, query) -> {
            check.due(name + ", nothing is there", query.ask(new RoundPlanner(), 0, 1, 1000), NEVER);
            check.due(name + ", no line goes there", query.ask(x, 0, 3, 100), NEVER);
            check.due(name + ", only the other way", query.ask(x, 2, 0, 100), NEVER);
            check.due(name + ", no trip so early or late", query.ask(x, 0, 1, name.startsWith("10") ? 29 : 41), NEVER);
        });
        check.due("7: the last trip is there", x.earliest(0, 1, 40), 50);
        check.due("8: the last trip is there", x.earliestWith(0, 1, 40, 1), 50);
        check.due("9: the last trip is there", x.rides(0, 1, 40), 1);
        check.due("10: the first trip is there", x.latest(0, 1, 30), 20);
    }

    private static void firstAndLastArrivals() {
        RoundPlanner x = new RoundPlanner();
        x.line(0);
        for (int stop = 1; stop < 6; stop++) {
            x.extend(0, stop, 30);
        }
        x.line(6);
        x.extend(1, 7, 1);
        x.trip(0, 500);
        x.trip(1, 0);
        x.footpath(5, 6, 30);
        check.due("7: where one is, at 0", x.earliest(3, 3, 0), 0);
        check.due("7: the first trip's first stop", x.earliest(6, 7, 0), 1);
        check.due("7: the last trip's last stop", x.earliest(0, 5, 0), 650);
        check.due("7: and on foot behind it", x.earliest(0, 6, 500), 680);
        check.due("7: where one is, at 1000", x.earliest(3, 3, 1000), 1000);
        check.due("7: on foot, past 1000", x.earliest(5, 6, 1000), 1030);
        check.due("10: the last trip", x.latest(0, 6, 1000), 500);
        check.due("10: on foot", x.latest(5, 6, 1000), 970);
        check.due("11: what is past 1000 is never counted", x.within(5, 971, 1000), 1);
    }

    private static void ridesBelow0CountAs0() {
        RoundPlanner x = Timetables.oneLine();
        x.footpath(0, 1, 30);
        for (int rides : new int[] {0, -1, -12, MIN}) {
            check.due("8: staying, " + rides, x.earliestWith(0, 0, 7, rides), 7);
            check.due("8: on foot, " + rides, x.earliestWith(0, 1, 7, rides), 37);
            check.due("8: by a trip, " + rides, x.earliestWith(0, 2, 7, rides), NEVER);
        }
        check.due("8: 1 is not 0", x.earliestWith(0, 1, 7, 1), 30);
        check.due("8: 1 is not 0", x.earliestWith(0, 2, 7, 1), 35);
    }

    private static void ridesAbove12CountAs12() {
        RoundPlanner x = Timetables.sevenRides(false);
        for (int rides : new int[] {11, 12, 13, 14, 1000, MAX - 1, MAX}) {
            check.due("8: all there are, " + rides, x.earliestWith(0, 7, 100, rides), 107);
            check.due("8: none is needed, " + rides, x.earliestWith(0, 0, 100, rides), 100);
            check.due("8: none helps, " + rides, x.earliestWith(7, 0, 100, rides), NEVER);
        }
    }

    private static void oneRideTooFew() {
        for (boolean turned : new boolean[] {false, true}) {
            RoundPlanner x = Timetables.sevenRides(turned);
            for (int stop = 0; stop < 8; stop++) {
                check.due("7: to " + stop, x.earliest(0, stop, 100), 100 + stop);
                check.due("9: to " + stop, x.rides(0, stop, 100), stop);
                check.due("8: enough to " + stop, x.earliestWith(0, stop, 100, stop), 100 + stop);
                check.due("8: one more", x.earliestWith(0, stop, 100, stop + 1), 100 + stop);
            }
            check.due("8: one too few to 2", x.earliestWith(0, 2, 100, 1), 131);
            check.due("8: one too few to 7", x.earliestWith(0, 7, 100, 6), NEVER);
            check.due("10: seven rides", x.latest(0, 7, 107), 100);
            check.due("10: a minute less", x.latest(0, 7, 106), NEVER);
        }
    }

    private static void leastRidesAreNone() {
        RoundPlanner x = Timetables.oneLine();
        x.footpath(0, 1, 10);
        for (int t : new int[] {0, 20, 1000}) {
            check.due("9: where one is", x.rides(2, 2, t), 0);
            check.due("9: on foot", x.rides(1, 0, t), 0);
        }
        check.due("9: on foot as soon as by the trip", x.rides(0, 1, 20), 0);
        x.footpath(0, 1, 11);
        check.due("9: by the trip a minute sooner", x.rides(0, 1, 20), 1);
        check.due("9: and nowhere else", x.rides(0, 3, 20), NEVER);
    }

    private static void leastRidesOfEqualArrivals() {
        RoundPlanner x = Timetables.oneLine();
        x.line(1);
        x.extend(1, 2, 5);
        x.trip(1, 30);
        check.due("9: staying on the trip is as quick", x.rides(0, 2, 0), 1);
        x.line(1);
        x.extend(2, 2, 4);
        x.trip(2, 30);
        check.due("9: changing is a minute quicker", x.rides(0, 2, 0), 2);
        check.due("8: but not with one", x.earliestWith(0, 2, 0, 1), 35);
    }

    private static void latestIs0() {
        RoundPlanner x = new RoundPlanner();
        x.line(0);
        x.extend(0, 1, 30);
        x.trip(0, 0);
        x.footpath(2, 3, 30);
        check.due("10: with a trip at 0", x.latest(0, 1, 30), 0);
        check.due("10: a minute too early", x.latest(0, 1, 29), NEVER);
        check.due("10: on foot from 0", x.latest(3, 2, 30), 0);
        check.due("10: on foot, a minute too early", x.latest(3, 2, 29), NEVER);
        check.due("10: where one is", x.latest(0, 0, 0), 0);
        x.footpath(1, 4, 1);
        x.footpath(5, 0, 1);
        check.due("10: with a footpath behind", x.latest(0, 4, 31), 0);
        check.due("10: with one before it is missed", x.latest(5, 1, 1000), NEVER);
        x.delay(0, 1);
        check.due("10: with one before it is just reached", x.latest(5, 1, 31), 0);
    }

    private static void latestIs1000() {
        RoundPlanner x = new RoundPlanner();
        x.footpath(0, 1, 1);
        check.due("10: where one is", x.latest(0, 0, 1000), 1000);
        check.due("10: where one is, before", x.latest(0, 0, 999), 999);
        check.due("10: no later than the footpath allows", x.latest(0, 1, 1000), 999);
    }

    // In three parts, as an object is used for 512 calls at most.
    private static void latestIsAnyTimeBetween() {
        for (int part = 1; part <= 3; part++) {
            RoundPlanner x = new RoundPlanner();
            x.footpath(0, 1, 1);
            for (int t = part; t <= 1000; t += 3) {
                check.due("10: on foot by " + t, x.latest(0, 1, t), t - 1);
            }
        }
    }

    private static void latestByTimeOrBefore() {
        RoundPlanner x = Timetables.oneLine();
        check.due("10: with the last", x.latest(0, 2, 1000), 40);
        check.due("10: with the last, just", x.latest(0, 2, 55), 40);
        check.due("10: with the one before", x.latest(0, 2, 54), 20);
        check.due("10: with the one before, just", x.latest(0, 2, 35), 20);
        check.due("10: with none", x.latest(0, 2, 34), NEVER);
        check.due("10: from a stop on the way", x.latest(1, 2, 55), 50);
    }

    private static void withinUntilNotIn0To1000() {
        for (int until : NO_TIMES) {
            check.due("11: until " + until, Timetables.full().within(0, 5, until), BAD_TIME);
            check.due("11: until " + until + ", nothing is there", new RoundPlanner().within(0, 5, until), BAD_TIME);
            check.due("11: t " + until, Timetables.full().within(0, until, 5), BAD_TIME);
        }
        RoundPlanner x = Timetables.oneLine();
        check.due("11: until 0", x.within(0, 0, 0), 1);
        check.due("11: until 1000", x.within(0, 0, 1000), 3);
    }

    private static void withinUntilOrBefore() {
        RoundPlanner x = Timetables.oneLine();
        check.due("11: before the second stop", x.within(0, 20, 29), 1);
        check.due("11: at the second stop", x.within(0, 20, 30), 2);
        check.due("11: before the third", x.within(0, 20, 34), 2);
        check.due("11: at the third", x.within(0, 20, 35), 3);
        x.footpath(0, 7, 30);
        check.due("11: on foot, in time", x.within(0, 970, 1000), 2);
        check.due("11: on foot, a minute late", x.within(0, 971, 1000), 1);
    }

    private static void withinAItself() {
        for (int t : new int[] {1, 20, 999, 1000}) {
            check.due("12: until a minute below " + t, Timetables.oneLine().within(0, t, t - 1), 0);
            check.due("12: until 0 below " + t, Timetables.full().within(0, t, 0), 0);
            check.due("12: until " + t, Timetables.oneLine().within(0, t, t), 1);
        }
        check.due("12: both 0", Timetables.oneLine().within(0, 0, 0), 1);
    }

    private static void withinAllStops() {
        RoundPlanner x = new RoundPlanner();
        for (int stop = 0; stop < 8; stop++) {
            x.footpath(3, stop, 10 + stop);
        }
        check.due("11: all but one", x.within(3, 0, 16), 7);
        check.due("11: all", x.within(3, 0, 17), 8);
        check.due("11: not more than all", x.within(3, 0, 1000), 8);
        check.due("11: not from another one", x.within(4, 0, 1000), 2);
    }
}
