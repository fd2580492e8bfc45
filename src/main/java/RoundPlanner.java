/** A timetable of lines, trips and footpaths, and the journeys that it allows. */
public final class RoundPlanner {
    public static final int BAD_STOP = -1;
    public static final int BAD_LINE = -2;
    public static final int BAD_TIME = -3;
    public static final int FULL = -4;
    public static final int NEVER = -5;

    private static final int STOPS = 8;
    private static final int STOP_PAIRS = 64;
    private static final int MOST_LINES = 5;
    private static final int STOPS_OF_A_LINE = 6;
    private static final int LINE_PLACES = 30;
    private static final int MOST_TRIPS = 12;
    private static final int MOST_MINUTES = 30;
    private static final int LAST_START = 500;
    private static final int LAST_TIME = 1000;

    // The document's bound for earliestWith, and enough for every journey: a best one needs
    // to leave a trip at no stop twice, nor where it began, so it has at most seven rides.
    private static final int MOST_RIDES = 12;

    // Above every time that a journey can arrive at, and far from overflow.
    private static final int UNREACHED = 1000000;

    // The first step of a halving search over the times up to LAST_TIME.
    private static final int WIDEST_STEP = 512;

    private static final int NO_FAULT = 0;

    // A line's stops stand in a row of STOPS_OF_A_LINE places, in their order;
    // placeMinutes is the time from the line's first stop.
    private final int[] placeStop = new int[LINE_PLACES];
    private final int[] placeMinutes = new int[LINE_PLACES];
    private final int[] lineStops = new int[MOST_LINES];
    private final int[] lineTrips = new int[MOST_LINES];
    private int lineCount;

    private final int[] tripLine = new int[MOST_TRIPS];
    private final int[] tripStart = new int[MOST_TRIPS];
    private int tripCount;

    // Held for both directions; 0 where there is no footpath.
    private final int[] walkMinutes = new int[STOP_PAIRS];

    // The search's scratch. The two are held apart because footpaths are not put one
    // behind the other: only from where one left a trip (or began) may one walk.
    private final int[] offTrip = new int[STOPS];
    private final int[] reached = new int[STOPS];

    public RoundPlanner() {
        lineCount = 0;
        tripCount = 0;
    }

    public int line(int stop) {
        if (!isStop(stop)) {
            return BAD_STOP;
        }
        if (lineCount >= MOST_LINES) {
            return FULL;
        }
        int added = lineCount;
        placeStop[added * STOPS_OF_A_LINE] = stop;
        placeMinutes[added * STOPS_OF_A_LINE] = 0;
        lineStops[added] = 1;
        lineTrips[added] = 0;
        lineCount++;
        return added;
    }

    public int extend(int line, int stop, int minutes) {
        if (!isLine(line)) {
            return BAD_LINE;
        }
        if (!isStop(stop) || isOnLine(line, stop)) {
            return BAD_STOP;
        }
        if (minutes < 1 || minutes > MOST_MINUTES) {
            return BAD_TIME;
        }
        if (lineStops[line] >= STOPS_OF_A_LINE || lineTrips[line] > 0) {
            return FULL;
        }
        int place = line * STOPS_OF_A_LINE + lineStops[line];
        placeStop[place] = stop;
        placeMinutes[place] = placeMinutes[place - 1] + minutes;
        lineStops[line]++;
        return lineStops[line];
    }

    public int trip(int line, int start) {
        if (!isLine(line)) {
            return BAD_LINE;
        }
        if (!isStart(start)) {
            return BAD_TIME;
        }
        if (tripCount >= MOST_TRIPS) {
            return FULL;
        }
        int added = tripCount;
        tripLine[added] = line;
        tripStart[added] = start;
        lineTrips[line]++;
        tripCount++;
        return added;
    }

    public int footpath(int a, int b, int minutes) {
        if (!isStop(a) || !isStop(b) || a == b) {
            return BAD_STOP;
        }
        if (minutes < 0 || minutes > MOST_MINUTES) {
            return BAD_TIME;
        }
        int old = walkMinutes[a * STOPS + b];
        walkMinutes[a * STOPS + b] = minutes;
        walkMinutes[b * STOPS + a] = minutes;
        return old;
    }

    public int delay(int trip, int start) {
        if (trip < 0 || trip >= tripCount) {
            return BAD_LINE;
        }
        if (!isStart(start)) {
            return BAD_TIME;
        }
        int old = tripStart[trip];
        tripStart[trip] = start;
        return old;
    }

    public int earliest(int a, int b, int t) {
        int fault = faultOf(a, b, t);
        if (fault != NO_FAULT) {
            return fault;
        }
        search(a, t, MOST_RIDES);
        return reached[b] == UNREACHED ? NEVER : reached[b];
    }

    public int earliestWith(int a, int b, int t, int rides) {
        int fault = faultOf(a, b, t);
        if (fault != NO_FAULT) {
            return fault;
        }
        // A number below 0 needs no test of its own: the search then makes no ride, as for 0.
        search(a, t, rides > MOST_RIDES ? MOST_RIDES : rides);
        return reached[b] == UNREACHED ? NEVER : reached[b];
    }

    public int rides(int a, int b, int t) {
        int fault = faultOf(a, b, t);
        if (fault != NO_FAULT) {
            return fault;
        }
        beginAt(a, t);
        int least = 0;
        for (int ride = 1; ride <= MOST_RIDES; ride++) {
            int before = reached[b];
            rideOnce();
            if (reached[b] < before) {
                least = ride;
            }
        }
        return reached[b] == UNREACHED ? NEVER : least;
    }

    public int latest(int a, int b, int t) {
        int fault = faultOf(a, b, t);
        if (fault != NO_FAULT) {
            return fault;
        }
        // Who begins earlier can wait, so the times that are early enough are those up
        // to the one sought, and halving steps find it.
        int begin = -1;
        for (int step = WIDEST_STEP; step > 0; step /= 2) {
            int later = begin + step;
            if (later <= t && arrivesBy(a, b, later, t)) {
                begin = later;
            }
        }
        return begin < 0 ? NEVER : begin;
    }

    public int within(int a, int t, int until) {
        if (!isStop(a)) {
            return BAD_STOP;
        }
        if (!isTime(t) || !isTime(until)) {
            return BAD_TIME;
        }
        search(a, t, MOST_RIDES);
        int count = 0;
        for (int stop = 0; stop < STOPS; stop++) {
            if (reached[stop] <= until) {
                count++;
            }
        }
        return count;
    }

    private static boolean isStop(int stop) {
        return stop >= 0 && stop < STOPS;
    }

    private static boolean isStart(int start) {
        return start >= 0 && start <= LAST_START;
    }

    private static boolean isTime(int t) {
        return t >= 0 && t <= LAST_TIME;
    }

    private boolean isLine(int line) {
        return line >= 0 && line < lineCount;
    }

    private boolean isOnLine(int line, int stop) {
        int first = line * STOPS_OF_A_LINE;
        int count = lineStops[line];
        for (int i = 0; i < count; i++) {
            if (placeStop[first + i] == stop) {
                return true;
            }
        }
        return false;
    }

    private static int faultOf(int a, int b, int t) {
        if (!isStop(a) || !isStop(b)) {
            return BAD_STOP;
        }
        return isTime(t) ? NO_FAULT : BAD_TIME;
    }

    private boolean arrivesBy(int a, int b, int t, int until) {
        search(a, t, MOST_RIDES);
        return reached[b] <= until;
    }

    /** Leaves in 'reached' each stop's earliest arrival with at most so many rides. */
    private void search(int a, int t, int mostRides) {
        beginAt(a, t);
        for (int ride = 0; ride < mostRides; ride++) {
            rideOnce();
        }
    }

    private void beginAt(int a, int t) {
        for (int stop = 0; stop < STOPS; stop++) {
            offTrip[stop] = UNREACHED;
        }
        offTrip[a] = t;
        walk();
    }

    // 'reached' stays as it is until every trip is done, so that a trip is boarded only
    // from what the rides before this one reach.
    private void rideOnce() {
        for (int trip = 0; trip < tripCount; trip++) {
            board(trip);
        }
        walk();
    }

    private void board(int trip) {
        int first = tripLine[trip] * STOPS_OF_A_LINE;
        int count = lineStops[tripLine[trip]];
        boolean aboard = false;
        for (int i = 0; i < count; i++) {
            int stop = placeStop[first + i];
            int time = tripStart[trip] + placeMinutes[first + i];
            if (aboard && time < offTrip[stop]) {
                offTrip[stop] = time;
            }
            if (reached[stop] <= time) {
                aboard = true;
            }
        }
    }

    private void walk() {
        for (int to = 0; to < STOPS; to++) {
            int best = offTrip[to];
            for (int from = 0; from < STOPS; from++) {
                int minutes = walkMinutes[from * STOPS + to];
                // From an unreached stop the sum is above UNREACHED and never the best.
                if (minutes > 0 && offTrip[from] + minutes < best) {
                    best = offTrip[from] + minutes;
                }
            }
            reached[to] = best;
        }
    }
}
