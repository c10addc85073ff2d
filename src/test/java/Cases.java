import java.util.Arrays;
import java.util.function.Consumer;

/** The cases of a test class, each on a house of its own. */
final class Cases {
    private final String name;
    private int cases = 0;
    private int failed = 0;

    Cases(String name) {
        this.name = name;
    }

    void test(String what, Consumer<Case> calls) {
        Case one = new Case(name + ": " + what);
        calls.accept(one);
        cases++;
        failed += one.end() > 0 ? 1 : 0;
    }

    /** Ends the test: with exit code 1 if a case failed. */
    void end() {
        System.out.println(name + ": " + cases + " cases, " + failed + " failed");
        if (failed != 0 || cases == 0) {
            System.exit(1);
        }
    }

    /** A call whose numbers are all as told, behind what must be there ahead of it. */
    Bounds bounds(long bad, Consumer<Case> ahead, String call, long... numbers) {
        return new Bounds(bad, ahead, call, numbers);
    }

    /** Each number of a call on both sides of its bounds, with a case for each side. */
    final class Bounds {
        private final long bad;
        private final Consumer<Case> ahead;
        private final String call;
        private final long[] numbers;

        Bounds(long bad, Consumer<Case> ahead, String call, long... numbers) {
            this.bad = bad;
            this.ahead = ahead;
            this.call = call;
            this.numbers = numbers;
        }

        /** The number at a place (from 0) is least .. most; and what the call answers at these. */
        Bounds number(int place, long least, long dueAtLeast, long most, long dueAtMost) {
            least(place, least, dueAtLeast);
            taken(place, most, dueAtMost);
            refused(place, most + 1);
            refused(place, Integer.MAX_VALUE);
            return this;
        }

        /** A number that is least or more, without end. */
        Bounds least(int place, long least, long dueAtLeast) {
            taken(place, least, dueAtLeast);
            refused(place, least - 1);
            refused(place, Integer.MIN_VALUE);
            return this;
        }

        /** A number at a place that is taken. */
        Bounds taken(int place, long v, long due) {
            test(Calls.written(call, with(place, v)) + " is taken", c -> {
                ahead.accept(c);
                c.gives(due, call, with(place, v));
            });
            return this;
        }

        /** A number at a place that is not as told. */
        Bounds refused(int place, long v) {
            test(Calls.written(call, with(place, v)) + " is refused", c -> {
                ahead.accept(c);
                c.refuses(bad, call, with(place, v));
            });
            return this;
        }

        private long[] with(int place, long v) {
            long[] row = Arrays.copyOf(numbers, numbers.length);
            row[place] = v;
            return row;
        }
    }
}
