import java.util.function.Supplier;

/** Each sentence on ODDS and on whom to ask first (promises 24 to 28, 40 and 50), held at its edges. */
public final class EdgesOfOddsTest {
    private static final Due due = new Due("EdgesOfOddsTest");
    private static final Supplier<WhenCanAllSix> RICH = Scene::rich;
    private static final int MILLION = 1_000_000;

    public static void main(String[] args) {
        howOddsAreReckoned();
        odds();
        howFewDays();
        offer();
        howFewPeople();
        never();
        howKnownOddsAreReckoned();
        known();
        inWhichOrder();
        howManyAreAsked();
        first();
        until();
        untilRefused();
        most();
        mostRefused();
        due.end();
    }

    private static void howOddsAreReckoned() {
        due.sentence(24, "ODDS for p people and d days by LIKELY k: of 1,000,000, how likely on one day at least "
            + "all are free: 1,000,000 less what is left, which is 1,000,000 at first, and for each day times "
            + "1,000,000 less ONE, by 1,000,000 (cut); ONE is 1,000,000 at first, and for each of the people times k, "
            + "by 12 (cut).");
        WhenCanAllSix x = new WhenCanAllSix();
        due.is("odds(1, 1, 0), the least", x.odds(1, 1, 0), 0);
        due.is("odds(99, 99, 0)", x.odds(99, 99, 0), 0);
        due.is("odds(1, 1, 12), the greatest", x.odds(1, 1, 12), MILLION);
        due.is("odds(99, 1, 12)", x.odds(99, 1, 12), MILLION);
        due.is("odds(99, 99, 12)", x.odds(99, 99, 12), MILLION);
        due.is("odds(1, 1, 1), ONE is cut", x.odds(1, 1, 1), 83333);
        due.is("odds(1, 1, 11), ONE is cut", x.odds(1, 1, 11), 916666);
        due.is("odds(3, 1, 7), ONE is cut for each", x.odds(3, 1, 7), 198494);
        due.is("odds(6, 1, 1), ONE is cut to nothing", x.odds(6, 1, 1), 0);
        due.is("odds(5, 1, 1), ONE of", x.odds(5, 1, 1), 4);
        due.is("odds(1, 2, 1), what is left is cut", x.odds(1, 2, 1), MILLION - 840278);
        due.is("odds(1, 3, 1), what is left is cut for each", x.odds(1, 3, 1), MILLION - 770255);
        due.is("odds(1, 19, 6), what is left is 1", x.odds(1, 19, 6), MILLION - 1);
        due.is("odds(1, 20, 6), nothing is left", x.odds(1, 20, 6), MILLION);
        due.is("odds(99, 99, 11)", x.odds(99, 99, 11), 17323);
        due.is("odds(5, 99, 1): each day takes one more, by the cut", x.odds(5, 99, 1), 99 * 4);
    }

    private static void odds() {
        due.sentence(24, "ODDS for p people (1 to 99) and d days (1 to 99) by LIKELY k (0 to 12). BAD.");
        due.limits(1, 99, RICH, "odds(v, 1, 6)", (x, v) -> x.odds(v, 1, 6));
        due.limits(1, 99, RICH, "odds(1, v, 6)", (x, v) -> x.odds(1, v, 6));
        due.limits(0, 12, RICH, "odds(1, 1, v)", (x, v) -> x.odds(1, 1, v));
    }

    private static void howFewDays() {
        due.sentence(25, "OFFER: how few days (1 to 99) so that ODDS are v at least; NONE.");
        WhenCanAllSix x = new WhenCanAllSix();
        due.is("offer(99, 0, 0): one day at least", x.offer(99, 0, 0), 1);
        due.is("offer(1, 6, 500000), just v", x.offer(1, 6, 500000), 1);
        due.is("offer(1, 6, 500001), one more", x.offer(1, 6, 500001), 2);
        due.is("offer(1, 6, 1000000)", x.offer(1, 6, MILLION), 20);
        due.is("offer(99, 11, 17323), just the ODDS of 99 days", x.offer(99, 11, 17323), 99);
        due.is("offer(99, 11, 17324), one more", x.offer(99, 11, 17324), Due.NONE);
        due.is("offer(1, 0, 1), never", x.offer(1, 0, 1), Due.NONE);
        due.is("offer(99, 12, 1000000)", x.offer(99, 12, MILLION), 1);
    }

    private static void offer() {
        due.sentence(25, "OFFER for p people (1 to 99) by LIKELY k and v (0 to 1,000,000); NONE. BAD. "
            + "(NONE isn't refused.)");
        due.limits(1, 99, RICH, "offer(v, 6, 3)", (x, v) -> x.offer(v, 6, 3));
        due.limits(0, 12, RICH, "offer(1, v, 3)", (x, v) -> x.offer(1, v, 3));
        due.limits(0, MILLION, RICH, "offer(1, 6, v)", (x, v) -> x.offer(1, 6, v));
        due.taken(RICH, "offer(1, 0, 1), NONE", x -> x.offer(1, 0, 1));
    }

    private static void howFewPeople() {
        due.sentence(26, "NEVER: how few people (1 to 99) so that ODDS are below v; NONE.");
        WhenCanAllSix x = new WhenCanAllSix();
        due.is("never(1, 6, 500001), one below v", x.never(1, 6, 500001), 1);
        due.is("never(1, 6, 500000), just v isn't below", x.never(1, 6, 500000), 2);
        due.is("never(1, 0, 1): one at least", x.never(1, 0, 1), 1);
        due.is("never(99, 11, 17324), just above the ODDS of 99", x.never(99, 11, 17324), 99);
        due.is("never(99, 11, 17323)", x.never(99, 11, 17323), Due.NONE);
        due.is("never(1, 0, 0): none are below 0", x.never(1, 0, 0), Due.NONE);
        due.is("never(99, 12, 1000000)", x.never(99, 12, MILLION), Due.NONE);
        due.is("never(99, 11, 1000000)", x.never(99, 11, MILLION), 25);
    }

    private static void never() {
        due.sentence(26, "NEVER for d days (1 to 99) by LIKELY k and v (0 to 1,000,000); NONE. BAD. "
            + "(NONE isn't refused.)");
        due.limits(1, 99, RICH, "never(v, 6, 3)", (x, v) -> x.never(v, 6, 3));
        due.limits(0, 12, RICH, "never(1, v, 3)", (x, v) -> x.never(1, v, 3));
        due.limits(0, MILLION, RICH, "never(1, 6, v)", (x, v) -> x.never(1, 6, v));
        due.taken(RICH, "never(1, 12, 1), NONE", x -> x.never(1, 12, 1));
    }

    private static void howKnownOddsAreReckoned() {
        due.sentence(27, "KNOWN ODDS of a DAY: how likely all are THERE after t days (0 to 99): 1,000,000, "
            + "times 12 less LOSE, by 12 (cut), t times for each of the PEOPLE for whom it is FREE; "
            + "0, if there is one for whom it isn't.");
        WhenCanAllSix one = Scene.allFree(1, 1);
        due.row("known(0, t) of one, LOSE 1", t -> one.known(0, (int) (long) t), MILLION, 916666, 840277, 770253);
        WhenCanAllSix two = Scene.allFree(2, 1);
        due.row("known(0, t) of two, LOSE 1", t -> two.known(0, (int) (long) t), MILLION, 840277, 706065);
        two.ask(2, 0);
        due.is("known(0, 99), LOSE 0", two.known(0, 99), MILLION);
        two.ask(2, 12);
        due.row("known(0, t), LOSE 12", t -> two.known(0, (int) (long) t), MILLION, 0, 0);
        two.ask(2, 11);
        due.row("known(0, t), LOSE 11", t -> two.known(0, (int) (long) t), MILLION, 6944, 48, 0);
        WhenCanAllSix eight = Scene.allFree(8, 14);
        eight.ask(2, 6);
        due.row("known(13, t) of eight, LOSE 6", t -> eight.known(13, (int) (long) t), MILLION, 3906, 15, 0);
        eight.free(7, 13, false);
        due.row("known(13, t), one isn't FREE", t -> eight.known(13, (int) (long) t), 0, 0, 0);
        due.is("known(12, 0), another DAY", eight.known(12, 0), MILLION);
        due.is("known(0, 0) of nobody", Scene.nobody(1).known(0, 0), MILLION);
        due.is("known(13, 99) of nobody", Scene.nobody(14).known(13, 99), MILLION);
        due.is("known(0, 0) of a POLITE who isn't FREE", Scene.eight().known(0, 0), 0);
    }

    private static void known() {
        due.sentence(27, "KNOWN ODDS of a DAY after t days. BAD.");
        due.limits(0, 8, RICH, "known(v, 1)", (x, v) -> x.known(v, 1));
        due.limits(0, 13, () -> Scene.allFree(8, 14), "known(v, 99)", (x, v) -> x.known(v, 99));
        due.limits(0, 99, RICH, "known(4, v)", (x, v) -> x.known(4, v));
        due.limits(0, 99, () -> Scene.allFree(1, 1), "known(0, v)", (x, v) -> x.known(0, v));
    }

    /** PERSONS of these LIKELYS. */
    private static WhenCanAllSix likely(int... likelys) {
        WhenCanAllSix x = new WhenCanAllSix();
        for (int likely : likelys) {
            x.person(0, 0, likely);
        }
        return x;
    }

    private static void inWhichOrder() {
        due.sentence(28, "ASK: PEOPLE in the order of LIKELY, the least first (of several the first): the i-th;");
        due.row("first, one", likely(5)::first, 0);
        due.row("first, least last", likely(7, 6, 5, 4, 3, 2, 1, 0)::first, 7, 6, 5, 4, 3, 2, 1, 0);
        due.row("first, least first", likely(0, 12)::first, 0, 1);
        due.row("first, of several the first", likely(4, 4, 4, 4, 4, 4, 4, 4)::first, 0, 1, 2, 3, 4, 5, 6, 7);
        due.row("first", likely(6, 3, 12, 6, 3, 0)::first, 5, 1, 4, 0, 3, 2);
    }

    private static void howManyAreAsked() {
        due.sentence(28, "how many are asked on the mean till one isn't free, or all were: 12 to the number of PEOPLE "
            + "is the whole; what is told is 1000 times the mean (cut).");
        due.is("one is asked, LIKELY 0", likely(0).first(-1), 1000);
        due.is("one is asked, LIKELY 12", likely(12).first(-1), 1000);
        due.is("two, LIKELY 0: the second isn't asked", likely(0, 0).first(-1), 1000);
        due.is("two, LIKELY 1: 1 and 1 of 12, cut", likely(1, 1).first(-1), 1083);
        due.is("two, LIKELY 11: 1 and 11 of 12, cut", likely(11, 11).first(-1), 1916);
        due.is("the least is asked first", likely(12, 0).first(-1), 1000);
        due.is("three, LIKELY 5: 1, 5 of 12, 25 of 144, cut once", likely(5, 5, 5).first(-1), 1590);
        due.is("eight, LIKELY 12, all are asked", likely(12, 12, 12, 12, 12, 12, 12, 12).first(-1), 8000);
        due.is("eight, LIKELY 11", likely(11, 11, 11, 11, 11, 11, 11, 11).first(-1), 6017);
        due.is("eight, LIKELY 5 to 12", likely(12, 11, 10, 9, 8, 7, 6, 5).first(-1), 1985);
    }

    private static void first() {
        due.sentence(28, "ASK: 1000 times the mean (i NONE), the i-th to be asked. BAD; STUCK: nobody.");
        due.limits(-1, 5, RICH, "first(v)", (x, v) -> x.first(v));
        due.limits(-1, 7, Scene::eight, "first(v)", (x, v) -> x.first(v));
        due.limits(-1, 0, () -> likely(3), "first(v)", (x, v) -> x.first(v));
        due.refused(Due.STUCK, Scene::fresh, "first(NONE) of nobody", x -> x.first(-1));
        due.refused(Due.BAD, Scene::fresh, "first(0) of nobody, nothing of that number", x -> x.first(0));
        due.refused(Due.BAD, Scene::fresh, "first(-2) of nobody, BAD ahead of STUCK", x -> x.first(-2));
    }

    private static void until() {
        due.sentence(40, "The fewest days (0 to 99) after which KNOWN ODDS of a DAY are below v (0 to 1,000,000); NONE.");
        WhenCanAllSix one = Scene.allFree(1, 1);
        due.is("until(0, 1000000): not yet today", one.until(0, MILLION), 1);
        due.is("until(0, 916667), one below v", one.until(0, 916667), 1);
        due.is("until(0, 916666), just v isn't below", one.until(0, 916666), 2);
        int last = one.known(0, 99);
        due.is("until(0, known after 99, and 1)", one.until(0, last + 1), 99);
        due.is("until(0, known after 99)", one.until(0, last), Due.NONE);
        due.is("until(0, 0): none are below 0", one.until(0, 0), Due.NONE);
        one.ask(2, 0);
        due.is("until(0, 1000000), LOSE 0", one.until(0, MILLION), Due.NONE);
        one.ask(2, 12);
        due.is("until(0, 1), LOSE 12", one.until(0, 1), 1);
        one.clear(0);
        due.is("until(0, 1), not FREE: today", one.until(0, 1), 0);
        due.is("until(0, 0), not FREE", one.until(0, 0), Due.NONE);
        due.is("until(13, 1000000) of nobody", Scene.nobody(14).until(13, MILLION), Due.NONE);
    }

    private static void untilRefused() {
        due.sentence(40, "NONE. BAD. (NONE isn't refused.)");
        due.limits(0, 8, RICH, "until(v, 1)", (x, v) -> x.until(v, 1));
        due.limits(0, 13, () -> Scene.allFree(8, 14), "until(v, 1)", (x, v) -> x.until(v, 1));
        due.limits(0, MILLION, RICH, "until(4, v)", (x, v) -> x.until(4, v));
        due.taken(RICH, "until(0, 0), NONE", x -> x.until(0, 0));
    }

    private static void most() {
        due.sentence(50, "Of 1,000,000, how likely at least m (0 to 20) of p people (0 to 20) are free on a day "
            + "by LIKELY k (0 to 12): people one after the other, each part of what is likely for how many times k, "
            + "and times 12 less k, by 12 (each cut).");
        WhenCanAllSix x = new WhenCanAllSix();
        due.row("most(0, 6, m) of nobody", m -> x.most(0, 6, m), MILLION, 0, 0);
        due.row("most(1, 6, m)", m -> x.most(1, 6, m), MILLION, 500000, 0);
        due.row("most(1, 1, m), each part is cut", m -> x.most(1, 1, m), 916666 + 83333, 83333, 0);
        due.row("most(1, 11, m), each part is cut", m -> x.most(1, 11, m), 83333 + 916666, 916666, 0);
        due.row("most(2, 1, m), each part is cut for each", m -> x.most(2, 1, m),
            840277 + (76388 + 76388) + 6944, (76388 + 76388) + 6944, 6944, 0);
        due.is("most(20, 0, 0)", x.most(20, 0, 0), MILLION);
        due.is("most(20, 0, 1)", x.most(20, 0, 1), 0);
        due.is("most(20, 12, 20), all", x.most(20, 12, 20), MILLION);
        due.is("most(19, 12, 20), more than there are", x.most(19, 12, 20), 0);
        due.is("most(20, 6, 10)", x.most(20, 6, 10), 588052);
        due.is("most(20, 11, 20)", x.most(20, 11, 20), x.odds(20, 1, 11));
        due.is("most(0, 6, 20)", x.most(0, 6, 20), 0);
        due.is("most(0, 0, 0), after all these", x.most(0, 0, 0), MILLION);
    }

    private static void mostRefused() {
        due.sentence(50, "by 12 (each cut). BAD.");
        due.limits(0, 20, RICH, "most(v, 6, 1)", (x, v) -> x.most(v, 6, 1));
        due.limits(0, 12, RICH, "most(3, v, 1)", (x, v) -> x.most(3, v, 1));
        due.limits(0, 20, RICH, "most(3, 6, v)", (x, v) -> x.most(3, 6, v));
    }
}
