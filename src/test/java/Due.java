import java.util.TreeSet;
import java.util.function.Supplier;
import java.util.function.ToLongFunction;

/** Compares answers with those that are due, tells each that differs, and ends a test. */
final class Due {
    static final int BAD = -2;
    static final int OTHER = -3;
    static final int NOTHING = -4;
    static final int STUCK = -5;
    static final int FULL = -6;
    static final int NONE = -1;

    /** A call in which one number is left open. */
    interface Given {
        long on(WhenCanAllSix x, int v);
    }

    private final String test;
    private final TreeSet<Integer> promises = new TreeSet<>();
    private int promise;
    private String sentence = "";
    private int passed;
    private int failed;

    Due(String test) {
        this.test = test;
    }

    /** What follows tests this promise. */
    void promise(int number) {
        promise = number;
        sentence = "";
        promises.add(number);
    }

    /** What follows tests this promise by this sentence, which stands in the document word by word. */
    void sentence(int number, String quote) {
        promise(number);
        sentence = ", \"" + quote + "\"";
        isTrue("the document says so", Document.says(quote));
    }

    void is(String call, long got, long want) {
        if (got == want) {
            passed++;
        } else {
            failed++;
            System.out.println(test + ", promise " + promise + sentence + ": " + call
                + " answered " + got + ", due is " + want);
        }
    }

    void isTrue(String what, boolean holds) {
        is(what, holds ? 1 : 0, 1);
    }

    /** One row of answers: call(0), call(1) and so on. */
    void row(String call, ToLongFunction<Integer> answer, long... want) {
        rowFrom(0, call, answer, want);
    }

    /** One row of answers: call(NONE), call(0), call(1) and so on. */
    void rowFromNone(String call, ToLongFunction<Integer> answer, long... want) {
        rowFrom(NONE, call, answer, want);
    }

    private void rowFrom(int first, String call, ToLongFunction<Integer> answer, long... want) {
        for (int i = 0; i < want.length; i++) {
            is(call + " " + (first + i), answer.applyAsLong(first + i), want[i]);
        }
    }

    /** The call is refused by this number on a new object of this kind: nothing changes but how many there were. */
    void refused(int number, Supplier<WhenCanAllSix> begin, String call, ToLongFunction<WhenCanAllSix> made) {
        WhenCanAllSix x = begin.get();
        is(call, made.applyAsLong(x), number);
        asItWasBut(number, call, x, begin.get());
    }

    /** x is as its twin is, but for one REFUSAL by this number more. */
    void asItWasBut(int number, String call, WhenCanAllSix x, WhenCanAllSix twin) {
        for (int i = 0; i < 5; i++) {
            long want = twin.status(12 + i) + (number == BAD - i ? 1 : 0);
            is(call + ", then status(" + (12 + i) + ")", x.status(12 + i), want);
        }
        isTrue(call + " leaves all as it was", Look.at(x).equals(Look.at(twin)));
        // The bytes of THE TAPE and what an image keeps can only be seen by using them.
        is(call + ", then calendar()", x.calendar(), twin.calendar());
        isTrue(call + " leaves THE TAPE as it was", Look.atPeople(x).equals(Look.atPeople(twin)));
        is(call + ", then back()", x.back(), twin.back());
        isTrue(call + " leaves the image as it was", Look.atPeople(x).equals(Look.atPeople(twin)));
    }

    /** The call isn't refused on a new object of this kind. */
    void taken(Supplier<WhenCanAllSix> begin, String call, ToLongFunction<WhenCanAllSix> made) {
        WhenCanAllSix x = begin.get();
        long before = refusals(x);
        long answer = made.applyAsLong(x);
        isTrue(call + " is taken (it answered " + answer + ")", answer >= NONE && refusals(x) == before);
    }

    /** The call takes v from least to most: these two, those just beyond them, and those farthest away. */
    void limits(int least, int most, Supplier<WhenCanAllSix> begin, String call, Given made) {
        for (int v : new int[] {least, most}) {
            taken(begin, call + ", v = " + v, x -> made.on(x, v));
        }
        for (int v : new int[] {least - 1, most + 1, Integer.MIN_VALUE, Integer.MAX_VALUE}) {
            refused(BAD, begin, call + ", v = " + v, x -> made.on(x, v));
        }
    }

    private static long refusals(WhenCanAllSix x) {
        long together = 0;
        for (int what = 12; what <= 16; what++) {
            together += x.status(what);
        }
        return together;
    }

    void end() {
        System.out.println(test + ": promises " + promises + ", " + passed + " checks as due, " + failed + " not");
        if (failed != 0) {
            System.exit(1);
        }
    }
}
