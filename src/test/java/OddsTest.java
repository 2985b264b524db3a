import java.math.BigInteger;
import java.util.function.Supplier;

/** Promises 24 to 28, 40 and 50: how likely it is, how many to offer, to ask, and whom first. */
public final class OddsTest {
    private static final Due due = new Due("OddsTest");
    private static final Supplier<WhenCanAllSix> SIX = Scene::six;

    public static void main(String[] args) {
        odds();
        offer();
        never();
        known();
        first();
        until();
        most();
        due.end();
    }

    /** ODDS by whole numbers without a size. */
    private static long plainOdds(int p, int d, int k) {
        BigInteger million = BigInteger.valueOf(1_000_000);
        BigInteger one = million;
        for (int i = 0; i < p; i++) {
            one = one.multiply(BigInteger.valueOf(k)).divide(BigInteger.valueOf(12));
        }
        BigInteger left = million;
        for (int i = 0; i < d; i++) {
            left = left.multiply(million.subtract(one)).divide(million);
        }
        return million.subtract(left).longValue();
    }

    private static void odds() {
        due.promise(24);
        WhenCanAllSix x = new WhenCanAllSix();
        due.is("odds(1, 1, 6)", x.odds(1, 1, 6), 500000);
        due.is("odds(2, 1, 6)", x.odds(2, 1, 6), 250000);
        due.is("odds(1, 2, 6)", x.odds(1, 2, 6), 750000);
        due.is("odds(1, 1, 12)", x.odds(1, 1, 12), 1000000);
        due.is("odds(99, 99, 12)", x.odds(99, 99, 12), 1000000);
        due.is("odds(99, 99, 0)", x.odds(99, 99, 0), 0);
        due.is("odds(1, 1, 1)", x.odds(1, 1, 1), 83333);
        due.is("odds(2, 1, 1)", x.odds(2, 1, 1), 6944);
        due.is("odds(1, 2, 1)", x.odds(1, 2, 1), 159722);
        due.is("odds(3, 1, 7)", x.odds(3, 1, 7), 198494);
        for (int p = 1; p <= 99; p += 7) {
            for (int d = 1; d <= 99; d += 14) {
                int k = (p + d) % 13;
                due.is("odds(" + p + ", " + d + ", " + k + ")", x.odds(p, d, k), plainOdds(p, d, k));
            }
        }
        due.refused(Due.BAD, SIX, "odds(0, 1, 1)", y -> y.odds(0, 1, 1));
        due.refused(Due.BAD, SIX, "odds(100, 1, 1)", y -> y.odds(100, 1, 1));
        due.refused(Due.BAD, SIX, "odds(1, 0, 1)", y -> y.odds(1, 0, 1));
        due.refused(Due.BAD, SIX, "odds(1, 100, 1)", y -> y.odds(1, 100, 1));
        due.refused(Due.BAD, SIX, "odds(1, 1, -1)", y -> y.odds(1, 1, -1));
        due.refused(Due.BAD, SIX, "odds(1, 1, 13)", y -> y.odds(1, 1, 13));
    }

    private static void offer() {
        due.promise(25);
        WhenCanAllSix x = new WhenCanAllSix();
        due.is("offer(1, 6, 0)", x.offer(1, 6, 0), 1);
        due.is("offer(1, 6, 500000)", x.offer(1, 6, 500000), 1);
        due.is("offer(1, 6, 500001)", x.offer(1, 6, 500001), 2);
        due.is("offer(1, 6, 750000)", x.offer(1, 6, 750000), 2);
        due.is("offer(1, 6, 750001)", x.offer(1, 6, 750001), 3);
        due.is("offer(1, 6, 1000000)", x.offer(1, 6, 1000000), 20);
        due.is("offer(99, 12, 1000000)", x.offer(99, 12, 1000000), 1);
        due.is("offer(1, 0, 1)", x.offer(1, 0, 1), -1);
        due.is("offer(1, 0, 0)", x.offer(1, 0, 0), 1);
        due.is("offer(99, 11, 17323), the last that is told", x.offer(99, 11, 17323), 99);
        due.is("offer(99, 11, 17324)", x.offer(99, 11, 17324), -1);
        due.is("NONE isn't refused", x.status(12), 0);
        due.refused(Due.BAD, SIX, "offer(0, 1, 1)", y -> y.offer(0, 1, 1));
        due.refused(Due.BAD, SIX, "offer(100, 1, 1)", y -> y.offer(100, 1, 1));
        due.refused(Due.BAD, SIX, "offer(1, -1, 1)", y -> y.offer(1, -1, 1));
        due.refused(Due.BAD, SIX, "offer(1, 13, 1)", y -> y.offer(1, 13, 1));
        due.refused(Due.BAD, SIX, "offer(1, 1, -1)", y -> y.offer(1, 1, -1));
        due.refused(Due.BAD, SIX, "offer(1, 1, 1000001)", y -> y.offer(1, 1, 1000001));
    }

    private static void never() {
        due.promise(26);
        WhenCanAllSix x = new WhenCanAllSix();
        due.is("never(1, 6, 500001)", x.never(1, 6, 500001), 1);
        due.is("never(1, 6, 500000)", x.never(1, 6, 500000), 2);
        due.is("never(1, 6, 250000)", x.never(1, 6, 250000), 3);
        due.is("never(1, 6, 0)", x.never(1, 6, 0), -1);
        due.is("never(1, 12, 1000000)", x.never(1, 12, 1000000), -1);
        due.is("never(1, 0, 1)", x.never(1, 0, 1), 1);
        due.is("never(99, 11, 17324), the last that is told", x.never(99, 11, 17324), 99);
        due.is("never(99, 11, 17323)", x.never(99, 11, 17323), -1);
        due.is("NONE isn't refused", x.status(12), 0);
        due.refused(Due.BAD, SIX, "never(0, 1, 1)", y -> y.never(0, 1, 1));
        due.refused(Due.BAD, SIX, "never(100, 1, 1)", y -> y.never(100, 1, 1));
        due.refused(Due.BAD, SIX, "never(1, -1, 1)", y -> y.never(1, -1, 1));
        due.refused(Due.BAD, SIX, "never(1, 13, 1)", y -> y.never(1, 13, 1));
        due.refused(Due.BAD, SIX, "never(1, 1, -1)", y -> y.never(1, 1, -1));
        due.refused(Due.BAD, SIX, "never(1, 1, 1000001)", y -> y.never(1, 1, 1000001));
    }

    private static void known() {
        due.promise(27);
        WhenCanAllSix x = Scene.persons(3, Scene.on(1, 2), Scene.on(1));
        due.is("known(1, 0)", x.known(1, 0), 1000000);
        due.is("known(1, 1)", x.known(1, 1), 840277);
        due.is("known(1, 2)", x.known(1, 2), 706065);
        due.is("known(2, 0)", x.known(2, 0), 0);
        due.is("known(0, 99)", x.known(0, 99), 0);
        x.ask(2, 0);
        due.is("known(1, 99), LOSE 0", x.known(1, 99), 1000000);
        x.ask(2, 12);
        due.is("known(1, 1), LOSE 12", x.known(1, 1), 0);
        due.is("known(1, 0), LOSE 12", x.known(1, 0), 1000000);
        due.is("known of nobody", new WhenCanAllSix().known(10, 99), 1000000);
        due.refused(Due.BAD, SIX, "known(-1, 0)", y -> y.known(-1, 0));
        due.refused(Due.BAD, SIX, "known(9, 0)", y -> y.known(9, 0));
        due.refused(Due.BAD, SIX, "known(0, -1)", y -> y.known(0, -1));
        due.refused(Due.BAD, SIX, "known(0, 100)", y -> y.known(0, 100));
    }

    private static WhenCanAllSix likely(int... likelies) {
        WhenCanAllSix x = new WhenCanAllSix();
        for (int likely : likelies) {
            x.person(0, 0, likely);
        }
        return x;
    }

    private static void first() {
        due.promise(28);
        WhenCanAllSix x = Scene.six();
        due.row("first", x::first, 4, 3, 2, 1, 0, 5);
        due.is("first(NONE)", x.first(-1), 1888);
        WhenCanAllSix y = likely(6, 3, 6, 3);
        due.row("first of several", y::first, 1, 3, 0, 2);
        due.is("mean of one", likely(0).first(-1), 1000);
        due.is("mean of 1 and 1", likely(1, 1).first(-1), 1083);
        due.is("mean of 12 and 1", likely(12, 1).first(-1), 1083);
        due.is("mean of eight 12s", likely(12, 12, 12, 12, 12, 12, 12, 12).first(-1), 8000);
        due.is("mean of eight 11s", likely(11, 11, 11, 11, 11, 11, 11, 11).first(-1), 6017);
        due.is("mean with a 0", likely(12, 12, 0).first(-1), 1000);
        due.refused(Due.BAD, SIX, "first(-2)", z -> z.first(-2));
        due.refused(Due.BAD, SIX, "first(6)", z -> z.first(6));
        due.refused(Due.BAD, Scene::fresh, "first(0)", z -> z.first(0));
        due.refused(Due.STUCK, Scene::fresh, "first(-1)", z -> z.first(-1));
    }

    private static void until() {
        due.promise(40);
        WhenCanAllSix x = Scene.persons(3, Scene.on(1, 2), Scene.on(1));
        due.is("until(1, 1000000)", x.until(1, 1000000), 1);
        due.is("until(1, 840278)", x.until(1, 840278), 1);
        due.is("until(1, 840277)", x.until(1, 840277), 2);
        due.is("until(1, 0)", x.until(1, 0), -1);
        due.is("until(2, 1)", x.until(2, 1), 0);
        due.is("until(2, 0)", x.until(2, 0), -1);
        x.ask(2, 0);
        due.is("until(1, 1000000), LOSE 0", x.until(1, 1000000), -1);
        WhenCanAllSix one = Scene.persons(3, Scene.on(1));
        one.ask(2, 6);
        due.is("until(1, 2), LOSE 6", one.until(1, 2), 19);
        due.is("until(1, 1), LOSE 6", one.until(1, 1), 20);
        one.ask(2, 1);
        int last = one.known(1, 99);
        due.is("until, the last day that is told", one.until(1, last + 1), 99);
        due.is("until, no day", one.until(1, last), -1);
        due.is("NONE isn't refused", one.status(12), 0);
        due.refused(Due.BAD, SIX, "until(-1, 0)", y -> y.until(-1, 0));
        due.refused(Due.BAD, SIX, "until(9, 0)", y -> y.until(9, 0));
        due.refused(Due.BAD, SIX, "until(0, -1)", y -> y.until(0, -1));
        due.refused(Due.BAD, SIX, "until(0, 1000001)", y -> y.until(0, 1000001));
    }

    private static void most() {
        due.promise(50);
        WhenCanAllSix x = new WhenCanAllSix();
        due.row("most(2, 6, i)", i -> x.most(2, 6, i), 1000000, 750000, 250000, 0);
        due.row("most(0, 5, i)", i -> x.most(0, 5, i), 1000000, 0);
        due.row("most(1, 1, i)", i -> x.most(1, 1, i), 999999, 83333, 0);
        due.row("most(2, 1, i)", i -> x.most(2, 1, i), 840277 + 159720, 159720, 6944, 0);
        due.is("most(20, 12, 20)", x.most(20, 12, 20), 1000000);
        due.is("most(20, 0, 0)", x.most(20, 0, 0), 1000000);
        due.is("most(20, 0, 1)", x.most(20, 0, 1), 0);
        due.is("most(19, 12, 20)", x.most(19, 12, 20), 0);
        due.is("most(20, 6, 10)", x.most(20, 6, 10), 588052);
        due.refused(Due.BAD, SIX, "most(-1, 0, 0)", y -> y.most(-1, 0, 0));
        due.refused(Due.BAD, SIX, "most(21, 0, 0)", y -> y.most(21, 0, 0));
        due.refused(Due.BAD, SIX, "most(0, -1, 0)", y -> y.most(0, -1, 0));
        due.refused(Due.BAD, SIX, "most(0, 13, 0)", y -> y.most(0, 13, 0));
        due.refused(Due.BAD, SIX, "most(0, 0, -1)", y -> y.most(0, 0, -1));
        due.refused(Due.BAD, SIX, "most(0, 0, 21)", y -> y.most(0, 0, 21));
    }
}
