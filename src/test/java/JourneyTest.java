/** Promises 7 to 11 on ordinary inputs. */
public final class JourneyTest {
    private static final int NEVER = RoundPlanner.NEVER;

    private static final Check check = new Check();

    public static void main(String[] args) {
        oneRide();
        changes();
        footpathsAroundRides();
        walkingAfterAWorseArrival();
        soonerOnFootOrByTrip();
        fewerRidesArriveLater();
        check.end();
    }

    private static void oneRide() {
        RoundPlanner x = Timetables.oneLine();
        check.due("7: the first that leaves", x.earliest(0, 2, 0), 35);
        check.due("7: boarded as it leaves", x.earliest(0, 2, 20), 35);
        check.due("7: just missed", x.earliest(0, 2, 21), 55);
        check.due("7: the last, as it leaves", x.earliest(0, 1, 40), 50);
        check.due("7: the last is gone", x.earliest(0, 1, 41), NEVER);
        check.due("7: boarded on the way", x.earliest(1, 2, 30), 35);
        check.due("7: on the way, just missed", x.earliest(1, 2, 31), 55);
        check.due("7: never back", x.earliest(2, 0, 0), NEVER);
        check.due("7: never back by one", x.earliest(1, 0, 0), NEVER);
        check.due("8: with one ride", x.earliestWith(0, 2, 0, 1), 35);
        check.due("8: with more", x.earliestWith(0, 2, 0, 4), 35);
        check.due("9: one ride", x.rides(0, 2, 0), 1);
        check.due("10: with the last", x.latest(0, 2, 100), 40);
        check.due("10: from a stop on the way", x.latest(1, 2, 60), 50);
        check.due("11: by the time of the first", x.within(0, 0, 32), 2);
    }

    private static void changes() {
        RoundPlanner x = Timetables.oneLine();
        x.line(1);
        x.extend(1, 5, 3);
        x.trip(1, 30);
        check.due("7: changing at once", x.earliest(0, 5, 0), 33);
        check.due("9: two rides", x.rides(0, 5, 0), 2);
        check.due("8: not with one", x.earliestWith(0, 5, 0, 1), NEVER);
        check.due("8: with two", x.earliestWith(0, 5, 0, 2), 33);
        check.due("10: changing at once", x.latest(0, 5, 33), 20);
        x.delay(2, 29);
        check.due("7: the change is missed", x.earliest(0, 5, 0), NEVER);
        check.due("10: the change is missed", x.latest(0, 5, 1000), NEVER);
        x.delay(2, 100);
        check.due("7: waiting for the change", x.earliest(0, 5, 0), 103);
        check.due("10: so the later trip does", x.latest(0, 5, 1000), 40);
    }

    private static void footpathsAroundRides() {
        RoundPlanner x = Timetables.oneLine();
        x.line(5);
        x.extend(1, 6, 4);
        x.trip(1, 60);
        x.footpath(4, 0, 8);
        x.footpath(2, 5, 5);
        x.footpath(6, 7, 2);
        check.due("7: a footpath before, between and behind", x.earliest(4, 7, 32), 66);
        check.due("9: which are no rides", x.rides(4, 7, 32), 2);
        check.due("8: with one ride and a footpath behind", x.earliestWith(4, 5, 32, 1), 60);
        check.due("7: the footpath before is too late", x.earliest(4, 7, 33), NEVER);
        check.due("10: all of them", x.latest(4, 7, 66), 32);
        check.due("10: a minute too few", x.latest(4, 7, 65), NEVER);
        check.due("11: all but one stop", x.within(4, 32, 66), 7);
        check.due("11: all but two", x.within(4, 32, 65), 6);
        x.footpath(2, 5, 6);
        check.due("7: the footpath between is too long", x.earliest(4, 7, 32), NEVER);
        check.due("7: but not after the trip before", x.earliest(4, 7, 12), 66);
    }

    // On foot one is at 1 sooner than by the trip, but only from the trip one may walk on.
    private static void walkingAfterAWorseArrival() {
        RoundPlanner x = Timetables.oneLine();
        x.footpath(0, 1, 1);
        x.footpath(1, 6, 4);
        check.due("7: at 1 on foot", x.earliest(0, 1, 0), 1);
        check.due("9: at 1 on foot", x.rides(0, 1, 0), 0);
        check.due("7: at 6 by the trip", x.earliest(0, 6, 0), 34);
        check.due("9: at 6 by the trip", x.rides(0, 6, 0), 1);
        check.due("10: at 6 by the trip", x.latest(0, 6, 1000), 40);
    }

    private static void soonerOnFootOrByTrip() {
        RoundPlanner x = Timetables.oneLine();
        x.footpath(0, 1, 11);
        x.delay(1, 0);
        check.due("7: by the trip", x.earliest(0, 1, 0), 10);
        check.due("9: by the trip", x.rides(0, 1, 0), 1);
        check.due("7: on foot, the trip is gone", x.earliest(0, 1, 1), 12);
        check.due("9: on foot, the trip is gone", x.rides(0, 1, 1), 0);
        x.footpath(0, 1, 9);
        check.due("7: on foot", x.earliest(0, 1, 0), 9);
        check.due("9: on foot", x.rides(0, 1, 0), 0);
    }

    private static void fewerRidesArriveLater() {
        RoundPlanner x = new RoundPlanner();
        x.footpath(0, 3, 30);
        x.line(0);
        x.extend(0, 3, 25);
        x.line(0);
        x.extend(1, 1, 2);
        x.line(1);
        x.extend(2, 3, 3);
        x.trip(2, 4);
        x.trip(0, 1);
        x.trip(1, 2);
        check.due("8: on foot", x.earliestWith(0, 3, 0, 0), 30);
        check.due("8: one ride", x.earliestWith(0, 3, 0, 1), 26);
        check.due("8: two rides", x.earliestWith(0, 3, 0, 2), 7);
        check.due("7: any", x.earliest(0, 3, 0), 7);
        check.due("9: two", x.rides(0, 3, 0), 2);
        check.due("9: two, a minute later", x.rides(0, 3, 1), 2);
        check.due("9: on foot, once all are gone", x.rides(0, 3, 3), 0);
        check.due("10: two rides", x.latest(0, 3, 7), 2);
        check.due("10: none early enough", x.latest(0, 3, 6), NEVER);
        check.due("10: on foot it is later", x.latest(0, 3, 33), 3);
    }
}
