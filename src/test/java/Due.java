import java.util.TreeSet;
import java.util.function.Supplier;
import java.util.function.ToLongFunction;

/** Compares answers with those that are due, tells each that differs, and ends a test. */
final class Due {
    static final int BAD = -2;
    static final int OTHER = -3;
    static final int NOTHING = -4;
    static final int STUCK = -5;
    static final int FULL = -6;
    static final int NONE = -1;

    private final String test;
    private final TreeSet<Integer> promises = new TreeSet<>();
    private int promise;
    private int passed;
    private int failed;

    Due(String test) {
        this.test = test;
    }

    /** What follows tests this promise. */
    void promise(int number) {
        promise = number;
        promises.add(number);
    }

    void is(String call, long got, long want) {
        if (got == want) {
            passed++;
        } else {
            failed++;
            System.out.println(test + ", promise " + promise + ": " + call + " answered " + got + ", due is " + want);
        }
    }

    void isTrue(String what, boolean holds) {
        is(what, holds ? 1 : 0, 1);
    }

    /** One row of answers: call(0), call(1) and so on. */
    void row(String call, ToLongFunction<Integer> answer, long... want) {
        for (int i = 0; i < want.length; i++) {
            is(call + " " + i, answer.applyAsLong(i), want[i]);
        }
    }

    /** The call is refused by this number on a new object of this kind: nothing changes but how many there were. */
    void refused(int number, Supplier<WhenCanAllSix> begin, String call, ToLongFunction<WhenCanAllSix> made) {
        WhenCanAllSix x = begin.get();
        String before = Look.at(x);
        long[] counts = refusals(x);
        is(call, made.applyAsLong(x), number);
        isTrue(call + " leaves all as it was", Look.at(x).equals(before));
        long[] after = refusals(x);
        for (int i = 0; i < counts.length; i++) {
            is(call + ", then status(" + (12 + i) + ")", after[i], counts[i] + (number == BAD - i ? 1 : 0));
        }
    }

    private static long[] refusals(WhenCanAllSix x) {
        long[] counts = new long[5];
        for (int i = 0; i < 5; i++) {
            counts[i] = x.status(12 + i);
        }
        return counts;
    }

    void end() {
        System.out.println(test + ": promises " + promises + ", " + passed + " checks as due, " + failed + " not");
        if (failed != 0) {
            System.exit(1);
        }
    }
}
