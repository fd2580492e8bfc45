/** Promises 7 to 11, and of promise 12 what it says of within. */
public final class JourneyTest {
    private static final int BAD_STOP = RoundPlanner.BAD_STOP;
    private static final int BAD_TIME = RoundPlanner.BAD_TIME;
    private static final int NEVER = RoundPlanner.NEVER;
    private static final int MIN = Integer.MIN_VALUE;
    private static final int MAX = Integer.MAX_VALUE;

    private static final Check check = new Check();

    public static void main(String[] args) {
        wrongInputs();
        withoutRides();
        oneRide();
        changes();
        footpathsAroundRides();
        footpathsAreNotJoined();
        walkingAfterAWorseArrival();
        fewerRidesArriveLater();
        sameArrivalWithFewerRides();
        sevenRides();
        latestEdges();
        withinEdges();
        queriesChangeNothing();
        check.end();
    }

    private static RoundPlanner oneLine() {
        RoundPlanner x = new RoundPlanner();
        x.line(0);
        x.extend(0, 1, 10);
        x.extend(0, 2, 5);
        x.trip(0, 40);
        x.trip(0, 20);
        return x;
    }

    private static void wrongInputs() {
        RoundPlanner x = oneLine();
        for (int stop : new int[] {-1, 8, MIN, MAX}) {
            for (int t : new int[] {0, -1, 1001}) {
                check.due("7: a " + stop, x.earliest(stop, 1, t), BAD_STOP);
                check.due("7: b " + stop, x.earliest(1, stop, t), BAD_STOP);
                check.due("8: a " + stop, x.earliestWith(stop, 1, t, 1), BAD_STOP);
                check.due("8: b " + stop, x.earliestWith(1, stop, t, 1), BAD_STOP);
                check.due("9: a " + stop, x.rides(stop, 1, t), BAD_STOP);
                check.due("9: b " + stop, x.rides(1, stop, t), BAD_STOP);
                check.due("10: a " + stop, x.latest(stop, 1, t), BAD_STOP);
                check.due("10: b " + stop, x.latest(1, stop, t), BAD_STOP);
                check.due("11: a " + stop, x.within(stop, t, 5), BAD_STOP);
                check.due("11: a with until " + stop, x.within(stop, 5, t), BAD_STOP);
            }
            check.due("7: both " + stop, x.earliest(stop, stop, 5), BAD_STOP);
        }
        for (int t : new int[] {-1, 1001, MIN, MAX}) {
            check.due("7: t " + t, x.earliest(0, 1, t), BAD_TIME);
            check.due("7: t, same stop " + t, x.earliest(0, 0, t), BAD_TIME);
            check.due("8: t " + t, x.earliestWith(0, 1, t, 1), BAD_TIME);
            check.due("9: t " + t, x.rides(0, 1, t), BAD_TIME);
            check.due("10: t " + t, x.latest(0, 1, t), BAD_TIME);
            check.due("11: t " + t, x.within(0, t, 5), BAD_TIME);
            check.due("11: until " + t, x.within(0, 5, t), BAD_TIME);
        }
    }

    private static void withoutRides() {
        RoundPlanner x = new RoundPlanner();
        x.footpath(3, 4, 30);
        for (int t : new int[] {0, 1000}) {
            check.due("7: where one is", x.earliest(3, 3, t), t);
            check.due("8: where one is", x.earliestWith(3, 3, t, 0), t);
            check.due("9: where one is", x.rides(3, 3, t), 0);
            check.due("10: where one is", x.latest(3, 3, t), t);
            check.due("7: on foot, past 1000 too", x.earliest(3, 4, t), t + 30);
            check.due("8: on foot", x.earliestWith(3, 4, t, 0), t + 30);
            check.due("9: on foot", x.rides(3, 4, t), 0);
        }
        check.due("10: on foot", x.latest(3, 4, 1000), 970);
        check.due("10: on foot, just", x.latest(4, 3, 30), 0);
        check.due("10: on foot, too late", x.latest(4, 3, 29), NEVER);
        check.due("7: no way", x.earliest(3, 5, 0), NEVER);
        check.due("8: no way", x.earliestWith(3, 5, 0, 12), NEVER);
        check.due("9: no way", x.rides(3, 5, 0), NEVER);
        check.due("10: no way", x.latest(3, 5, 1000), NEVER);
    }

    private static void oneRide() {
        RoundPlanner x = oneLine();
        check.due("7: the first that leaves", x.earliest(0, 2, 0), 35);
        check.due("7: boarded as it leaves", x.earliest(0, 2, 20), 35);
        check.due("7: just missed", x.earliest(0, 2, 21), 55);
        check.due("7: the last, as it leaves", x.earliest(0, 1, 40), 50);
        check.due("7: the last is gone", x.earliest(0, 1, 41), NEVER);
        check.due("7: boarded on the way", x.earliest(1, 2, 30), 35);
        check.due("7: on the way, just missed", x.earliest(1, 2, 31), 55);
        check.due("7: never back", x.earliest(2, 0, 0), NEVER);
        check.due("7: never back by one", x.earliest(1, 0, 0), NEVER);
        check.due("9: one ride", x.rides(0, 2, 0), 1);
        check.due("9: gone", x.rides(0, 2, 41), NEVER);
        check.due("10: with the last", x.latest(0, 2, 1000), 40);
        check.due("10: with the last, just", x.latest(0, 2, 55), 40);
        check.due("10: with the one before", x.latest(0, 2, 54), 20);
        check.due("10: with the one before, just", x.latest(0, 2, 35), 20);
        check.due("10: none so early", x.latest(0, 2, 34), NEVER);
        check.due("10: from a stop on the way", x.latest(1, 2, 60), 50);
        for (int rides : new int[] {MIN, -1, 0}) {
            check.due("8: rides " + rides, x.earliestWith(0, 2, 0, rides), NEVER);
            check.due("8: staying, rides " + rides, x.earliestWith(0, 0, 7, rides), 7);
        }
        for (int rides : new int[] {1, 2, 12, 13, MAX}) {
            check.due("8: rides " + rides, x.earliestWith(0, 2, 0, rides), 35);
        }
    }

    private static void changes() {
        RoundPlanner x = oneLine();
        x.line(1);
        x.extend(1, 5, 3);
        x.trip(1, 30);
        check.due("7: changing at once", x.earliest(0, 5, 0), 33);
        check.due("9: two rides", x.rides(0, 5, 0), 2);
        check.due("8: not with one", x.earliestWith(0, 5, 0, 1), NEVER);
        check.due("8: with two", x.earliestWith(0, 5, 0, 2), 33);
        check.due("10: changing at once", x.latest(0, 5, 33), 20);
        x.delay(2, 29);
        check.due("7: the change is missed", x.earliest(0, 5, 0), NEVER);
        check.due("10: the change is missed", x.latest(0, 5, 1000), NEVER);
        x.delay(2, 100);
        check.due("7: waiting for the change", x.earliest(0, 5, 0), 103);
        check.due("10: so the later trip does", x.latest(0, 5, 1000), 40);
    }

    private static void footpathsAroundRides() {
        RoundPlanner x = oneLine();
        x.line(5);
        x.extend(1, 6, 4);
        x.trip(1, 60);
        x.footpath(4, 0, 8);
        x.footpath(2, 5, 5);
        x.footpath(6, 7, 2);
        check.due("7: a footpath before, between and behind", x.earliest(4, 7, 32), 66);
        check.due("9: which are no rides", x.rides(4, 7, 32), 2);
        check.due("8: with one ride and a footpath behind", x.earliestWith(4, 5, 32, 1), 60);
        check.due("7: the footpath before is too late", x.earliest(4, 7, 33), NEVER);
        check.due("10: all of them", x.latest(4, 7, 66), 32);
        check.due("10: a minute too few", x.latest(4, 7, 65), NEVER);
        check.due("11: all but one stop", x.within(4, 32, 66), 7);
        check.due("11: all but two", x.within(4, 32, 65), 6);
        x.footpath(2, 5, 6);
        check.due("7: the footpath between is too long", x.earliest(4, 7, 32), NEVER);
        check.due("7: but not after the trip before", x.earliest(4, 7, 12), 66);
    }

    private static void footpathsAreNotJoined() {
        RoundPlanner x = oneLine();
        x.footpath(5, 6, 1);
        x.footpath(6, 0, 1);
        x.footpath(2, 3, 1);
        x.footpath(3, 4, 1);
        check.due("7: not two without a ride", x.earliest(5, 0, 0), NEVER);
        check.due("7: not two before a ride", x.earliest(5, 2, 0), NEVER);
        check.due("7: not two behind a ride", x.earliest(0, 4, 0), NEVER);
        check.due("7: one before, one behind", x.earliest(6, 3, 0), 36);
        check.due("9: not two", x.rides(5, 2, 0), NEVER);
        check.due("10: not two", x.latest(0, 4, 1000), NEVER);
        check.due("11: not two", x.within(0, 0, 1000), 5);
        x.line(4);
        x.extend(1, 7, 1);
        x.trip(1, 300);
        check.due("7: not two between rides", x.earliest(0, 7, 0), NEVER);
        x.footpath(0, 1, 2);
        x.footpath(0, 2, 30);
        x.footpath(1, 2, 2);
        check.due("7: two short ones are no long one", x.earliestWith(0, 2, 0, 0), 30);
    }

    // On foot one is at 1 sooner than by the trip, but only from the trip one may walk on.
    private static void walkingAfterAWorseArrival() {
        RoundPlanner x = oneLine();
        x.footpath(0, 1, 1);
        x.footpath(1, 6, 4);
        check.due("7: at 1 on foot", x.earliest(0, 1, 0), 1);
        check.due("9: at 1 on foot", x.rides(0, 1, 0), 0);
        check.due("7: at 6 by the trip", x.earliest(0, 6, 0), 34);
        check.due("9: at 6 by the trip", x.rides(0, 6, 0), 1);
        check.due("10: at 6 by the trip", x.latest(0, 6, 1000), 40);
    }

    private static void fewerRidesArriveLater() {
        RoundPlanner x = new RoundPlanner();
        x.footpath(0, 3, 30);
        x.line(0);
        x.extend(0, 3, 25);
        x.line(0);
        x.extend(1, 1, 2);
        x.line(1);
        x.extend(2, 3, 3);
        x.trip(2, 4);
        x.trip(0, 1);
        x.trip(1, 2);
        check.due("8: on foot", x.earliestWith(0, 3, 0, 0), 30);
        check.due("8: one ride", x.earliestWith(0, 3, 0, 1), 26);
        check.due("8: two rides", x.earliestWith(0, 3, 0, 2), 7);
        check.due("7: any", x.earliest(0, 3, 0), 7);
        check.due("9: two", x.rides(0, 3, 0), 2);
        check.due("9: two, a minute later", x.rides(0, 3, 1), 2);
        check.due("9: on foot, once all are gone", x.rides(0, 3, 3), 0);
        check.due("10: two rides", x.latest(0, 3, 7), 2);
        check.due("10: none early enough", x.latest(0, 3, 6), NEVER);
        check.due("10: on foot it is later", x.latest(0, 3, 33), 3);
    }

    private static void sameArrivalWithFewerRides() {
        RoundPlanner x = oneLine();
        x.line(1);
        x.extend(1, 2, 5);
        x.trip(1, 30);
        check.due("9: staying on the trip is one ride", x.rides(0, 2, 0), 1);
        x.footpath(0, 2, 15);
        check.due("9: on foot at the same time", x.rides(0, 2, 20), 0);
        check.due("9: a minute later", x.rides(0, 2, 21), 0);
        x.footpath(0, 2, 16);
        check.due("9: the trip is sooner", x.rides(0, 2, 20), 1);
    }

    // Two lines are each quick where the other is slow, and earlier trips of the one wait
    // where the other's arrive: 0 to 7 takes as many rides as eight stops allow. The trips
    // are numbered once in the order in which they are ridden and once against it.
    private static void sevenRides() {
        int[][] trips = {{0, 100}, {1, 101}, {0, 71}, {1, 72}, {0, 42}, {1, 43}, {2, 106}};
        for (int turned = 0; turned < 2; turned++) {
            RoundPlanner x = new RoundPlanner();
            for (int line = 0; line < 2; line++) {
                x.line(line);
                for (int i = 1; i < 6; i++) {
                    x.extend(line, line + i, i % 2 == 1 ? 1 : 30);
                }
            }
            x.line(6);
            x.extend(2, 7, 1);
            for (int i = 0; i < 7; i++) {
                int[] trip = trips[turned == 0 ? i : 6 - i];
                x.trip(trip[0], trip[1]);
            }
            check.due("7: seven rides", x.earliest(0, 7, 100), 107);
            check.due("9: seven rides", x.rides(0, 7, 100), 7);
            for (int stop = 0; stop < 8; stop++) {
                check.due("7: to " + stop, x.earliest(0, stop, 100), 100 + stop);
                check.due("9: to " + stop, x.rides(0, stop, 100), stop);
                check.due("11: by then", x.within(0, 100, 100 + stop), stop + 1);
            }
            for (int rides = 0; rides < 7; rides++) {
                check.due("8: too few, " + rides, x.earliestWith(0, 7, 100, rides), NEVER);
            }
            check.due("8: one ride to 2", x.earliestWith(0, 2, 100, 1), 131);
            check.due("8: seven", x.earliestWith(0, 7, 100, 7), 107);
            check.due("8: more", x.earliestWith(0, 7, 100, 8), 107);
            check.due("10: seven rides", x.latest(0, 7, 107), 100);
        }
    }

    private static void latestEdges() {
        RoundPlanner x = new RoundPlanner();
        x.line(0);
        x.extend(0, 1, 30);
        x.trip(0, 0);
        check.due("10: begin at 0", x.latest(0, 1, 30), 0);
        check.due("10: arrive too late", x.latest(0, 1, 29), NEVER);
        check.due("10: before anything", x.latest(0, 1, 0), NEVER);
        check.due("10: the same stop at 0", x.latest(0, 0, 0), 0);
        check.due("10: the same stop at 1000", x.latest(1, 1, 1000), 1000);
        x.footpath(0, 1, 1);
        // Every third time, as an object is used for 512 calls at most.
        for (int t = 1; t <= 1000; t += 3) {
            check.due("10: on foot by " + t, x.latest(0, 1, t), t - 1);
        }
    }

    private static void withinEdges() {
        RoundPlanner x = oneLine();
        check.due("12: until below t", x.within(0, 20, 19), 0);
        check.due("12: until 0 below t", x.within(0, 1000, 0), 0);
        check.due("11: until t", x.within(0, 20, 20), 1);
        check.due("11: at the ends", x.within(0, 0, 0), 1);
        check.due("11: at the ends", x.within(0, 1000, 1000), 1);
        check.due("11: before the first stop", x.within(0, 20, 29), 1);
        check.due("11: at the first stop", x.within(0, 20, 30), 2);
        check.due("11: before the second", x.within(0, 20, 34), 2);
        check.due("11: at the second", x.within(0, 20, 35), 3);
        check.due("11: all day", x.within(0, 0, 1000), 3);
        x.footpath(0, 7, 30);
        check.due("11: on foot, in time", x.within(0, 970, 1000), 2);
        check.due("11: on foot, too late", x.within(0, 971, 1000), 1);
    }

    private static void queriesChangeNothing() {
        RoundPlanner x = oneLine();
        x.footpath(2, 3, 4);
        for (int round = 0; round < 2; round++) {
            check.due("7: again", x.earliest(0, 3, 0), 39);
            check.due("11: again", x.within(0, 0, 39), 4);
            check.due("10: again", x.latest(0, 3, 1000), 40);
            check.due("8: again", x.earliestWith(0, 3, 0, 0), NEVER);
            check.due("9: again", x.rides(0, 3, 0), 1);
            check.due("7: elsewhere", x.earliest(3, 2, 9), 13);
        }
        check.due("7: the starts are as they were", x.delay(0, 41), 40);
        check.due("7: the starts are as they were", x.delay(1, 21), 20);
        check.due("7: the footpath is as it was", x.footpath(2, 3, 5), 4);
        check.due("7: the trips are as many", x.trip(0, 1), 2);
        check.due("7: the lines are as many", x.line(1), 1);
    }
}
