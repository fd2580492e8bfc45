import java.util.Arrays;
import java.util.HashSet;
import java.util.Set;

/**
 * Runs of made-up calls, right and wrong ones, beside a model that is written straight from
 * the document: it follows every journey ride by ride and keeps every arrival, so it leans on
 * no argument about which of them are worth keeping.
 */
public final class ExhaustiveTest {
    private static final int RUNS = 120;
    private static final int CALLS = 512;

    private static final Check check = new Check();
    private static long state = 20261115;

    public static void main(String[] args) {
        for (int run = 0; run < RUNS; run++) {
            run(run);
        }
        check.end();
    }

    private static void run(int number) {
        RoundPlanner x = new RoundPlanner();
        Model model = new Model();
        int span = new int[] {20, 60, 200, 500}[number % 4];
        int minutes = number % 3 == 0 ? 30 : 8;
        // Every other run gets a full timetable at first, the rest let it grow by chance.
        int building = number % 2 == 0 ? 50 : 0;
        for (int call = 0; call < CALLS; call++) {
            int kind = call < building ? pick(4) : pick(40);
            oneCall(x, model, kind < 10 ? kind : 5 + kind % 5, span, minutes, number + "/" + call);
        }
    }

    private static void oneCall(RoundPlanner x, Model model, int kind, int span, int minutes, String at) {
        int a = aStop();
        int b = aStop();
        int t = aTime(span);
        int line = among(5);
        int rides = pick(20) == 0 ? odd() : pick(16) - 2;
        int needs = pick(30) == 0 ? odd() : 1 + pick(minutes);
        int walk = pick(4) == 0 ? 0 : needs;
        int until = pick(30) == 0 ? odd() : t + pick(span) - 3;
        int trip = among(12);
        String with = at + ": ";
        switch (kind) {
            case 0 -> check.due(with + "line " + a, x.line(a), model.line(a));
            case 1 -> check.due(with + "extend " + line + " " + a + " " + needs,
                    x.extend(line, a, needs), model.extend(line, a, needs));
            case 2 -> check.due(with + "trip " + line + " " + t, x.trip(line, t), model.trip(line, t));
            case 3 -> check.due(with + "footpath " + a + " " + b + " " + walk,
                    x.footpath(a, b, walk), model.footpath(a, b, walk));
            case 4 -> check.due(with + "delay " + trip + " " + t, x.delay(trip, t), model.delay(trip, t));
            case 5 -> check.due(with + "earliest " + a + " " + b + " " + t,
                    x.earliest(a, b, t), model.earliest(a, b, t));
            case 6 -> check.due(with + "earliestWith " + a + " " + b + " " + t + " " + rides,
                    x.earliestWith(a, b, t, rides), model.earliestWith(a, b, t, rides));
            case 7 -> check.due(with + "rides " + a + " " + b + " " + t, x.rides(a, b, t), model.rides(a, b, t));
            case 8 -> check.due(with + "latest " + a + " " + b + " " + t, x.latest(a, b, t), model.latest(a, b, t));
            default -> check.due(with + "within " + a + " " + t + " " + until,
                    x.within(a, t, until), model.within(a, t, until));
        }
    }

    private static int pick(int below) {
        state = state * 6364136223846793005L + 1442695040888963407L;
        return (int) ((state >>> 33) % below);
    }

    private static int odd() {
        return new int[] {-1, 8, 12, 31, 501, 1001, Integer.MIN_VALUE, Integer.MAX_VALUE}[pick(8)];
    }

    private static int aStop() {
        return pick(60) == 0 ? odd() : pick(8);
    }

    private static int among(int count) {
        return pick(40) == 0 ? odd() : pick(count);
    }

    private static int aTime(int span) {
        return pick(40) == 0 ? odd() : pick(span + 1);
    }

    private static final class Model {
        private final int[][] stops = new int[5][0];
        private final int[][] needs = new int[5][0];
        private final int[][] foot = new int[8][8];
        private final int[] tripLine = new int[12];
        private final int[] tripStart = new int[12];
        private int lines;
        private int trips;

        int line(int stop) {
            if (badStop(stop)) return -1;
            if (lines == 5) return -4;
            stops[lines] = new int[] {stop};
            needs[lines] = new int[] {0};
            return lines++;
        }

        int extend(int line, int stop, int minutes) {
            if (line < 0 || line >= lines) return -2;
            if (badStop(stop) || Arrays.stream(stops[line]).anyMatch(each -> each == stop)) return -1;
            if (minutes < 1 || minutes > 30) return -3;
            boolean used = Arrays.stream(tripLine, 0, trips).anyMatch(each -> each == line);
            int count = stops[line].length;
            if (count == 6 || used) return -4;
            stops[line] = Arrays.copyOf(stops[line], count + 1);
            needs[line] = Arrays.copyOf(needs[line], count + 1);
            stops[line][count] = stop;
            needs[line][count] = minutes;
            return count + 1;
        }

        int trip(int line, int start) {
            if (line < 0 || line >= lines) return -2;
            if (start < 0 || start > 500) return -3;
            if (trips == 12) return -4;
            tripLine[trips] = line;
            tripStart[trips] = start;
            return trips++;
        }

        int footpath(int a, int b, int minutes) {
            if (badStop(a) || badStop(b) || a == b) return -1;
            if (minutes < 0 || minutes > 30) return -3;
            int old = foot[a][b];
            foot[a][b] = foot[b][a] = minutes;
            return old;
        }

        int delay(int trip, int start) {
            if (trip < 0 || trip >= trips) return -2;
            if (start < 0 || start > 500) return -3;
            int old = tripStart[trip];
            tripStart[trip] = start;
            return old;
        }

        int earliest(int a, int b, int t) {
            return earliestWith(a, b, t, 12);
        }

        int earliestWith(int a, int b, int t, int rides) {
            if (badStop(a) || badStop(b)) return -1;
            if (badTime(t)) return -3;
            int most = Math.max(0, Math.min(12, rides));
            int best = Arrays.stream(arrivals(a, t, most)[b], 0, most + 1).min().getAsInt();
            return best == Integer.MAX_VALUE ? -5 : best;
        }

        int rides(int a, int b, int t) {
            int best = earliest(a, b, t);
            if (best < 0) return best;
            int count = 0;
            while (arrivals(a, t, 12)[b][count] != best) count++;
            return count;
        }

        int latest(int a, int b, int t) {
            if (badStop(a) || badStop(b)) return -1;
            if (badTime(t)) return -3;
            for (int begin = 1000; begin >= 0; begin--) {
                int arrival = earliest(a, b, begin);
                if (arrival != -5 && arrival <= t) return begin;
            }
            return -5;
        }

        int within(int a, int t, int until) {
            if (badStop(a)) return -1;
            if (badTime(t) || badTime(until)) return -3;
            int count = 0;
            for (int b = 0; b < 8; b++) {
                int arrival = earliest(a, b, t);
                if (arrival != -5 && arrival <= until) count++;
            }
            return count;
        }

        /** For each stop and number of rides, the earliest arrival with exactly so many. */
        private int[][] arrivals(int a, int t, int most) {
            int[][] best = new int[8][most + 1];
            for (int[] row : best) Arrays.fill(row, Integer.MAX_VALUE);
            Set<Integer> now = Set.of(t * 8 + a);
            for (int rides = 0; rides <= most && !now.isEmpty(); rides++) {
                Set<Integer> next = new HashSet<>();
                for (int each : now) {
                    for (int b = 0; b < 8; b++) {
                        if (b != each % 8 && foot[each % 8][b] == 0) continue;
                        int there = each / 8 + foot[each % 8][b];
                        best[b][rides] = Math.min(best[b][rides], there);
                        board(b, there, next);
                    }
                }
                now = next;
            }
            return best;
        }

        private void board(int stop, int time, Set<Integer> left) {
            for (int trip = 0; trip < trips; trip++) {
                int[] row = stops[tripLine[trip]];
                for (int on = 0; on < row.length - 1; on++) {
                    if (row[on] != stop || timeAt(trip, on) < time) continue;
                    for (int off = on + 1; off < row.length; off++) {
                        left.add(timeAt(trip, off) * 8 + row[off]);
                    }
                }
            }
        }

        private int timeAt(int trip, int place) {
            return tripStart[trip] + Arrays.stream(needs[tripLine[trip]], 0, place + 1).sum();
        }

        private static boolean badStop(int stop) {
            return stop < 0 || stop > 7;
        }

        private static boolean badTime(int t) {
            return t < 0 || t > 1000;
        }
    }
}
