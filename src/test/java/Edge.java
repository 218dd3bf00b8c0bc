import java.util.IdentityHashMap;
import java.util.Map;
import java.util.function.Supplier;
import java.util.function.ToLongFunction;

/** What the tests of edges share: calls that are refused, and leave the object as it was. */
final class Edge {
    /** Odd numbers, told in every place where a number is told. */
    static final int[] ODD = {Integer.MIN_VALUE, Integer.MAX_VALUE, -1};

    private static final Map<Supplier<AllHome>, String> READ = new IdentityHashMap<>();

    private Edge() {
    }

    /** A call of which one number is told from outside. */
    interface With {
        long call(AllHome x, int number);
    }

    /** The call answers so, and an object that it came to tells the same as one that it did not come to. */
    static void refused(String call, Supplier<AllHome> made, ToLongFunction<AllHome> on, long want) {
        AllHome x = made.get();
        Due.is(call, on.applyAsLong(x), want);
        String before = READ.computeIfAbsent(made, m -> Told.of(m.get()));
        Due.same(call + " changes nothing", Told.of(x), before);
    }

    /** The same for each number of a row. */
    static void refusedFor(String call, Supplier<AllHome> made, With on, long want, int... numbers) {
        for (int number : numbers) {
            refused(call + " with " + number, made, x -> on.call(x, number), want);
        }
    }

    /** The same for the odd numbers, -1 too. */
    static void refusedForOdd(String call, Supplier<AllHome> made, With on, long want) {
        refusedFor(call, made, on, want, ODD);
    }
}
