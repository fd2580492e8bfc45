import java.util.function.Supplier;
import java.util.function.ToIntFunction;

/** Counts and prints the answers that are not the ones due. */
final class Check {
    private int right;
    private int wrong;

    void due(String what, long got, long want) {
        if (got == want) {
            right++;
        } else {
            wrong++;
            System.out.println(what + " answered " + got + ", due is " + want);
        }
    }

    void holds(String what, boolean held) {
        if (held) {
            right++;
        } else {
            wrong++;
            System.out.println("does not hold: " + what);
        }
    }

    /** The call answers as due, and leaves its object as another is on which it was not made. */
    void changesNothing(String what, Supplier<RoundPlanner> made, ToIntFunction<RoundPlanner> call, int want) {
        due(what, call.applyAsInt(made.get()), want);
        Supplier<RoundPlanner> called = () -> {
            RoundPlanner x = made.get();
            call.applyAsInt(x);
            return x;
        };
        holds(what + ": nothing changes then", Reading.of(called).equals(Reading.of(made)));
    }

    void end() {
        System.out.println(right + " answers as due, " + wrong + " not");
        System.exit(wrong == 0 && right > 0 ? 0 : 1);
    }
}
