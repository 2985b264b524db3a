import java.util.function.Supplier;

/** Each sentence on which DAYS for whom, and who is left out (promises 29 to 34, 41 to 49, 51), held at its edges. */
public final class EdgesOfDinnersTest {
    private static final Due due = new Due("EdgesOfDinnersTest");
    private static final Supplier<WhenCanAllSix> RICH = Scene::rich;
    private static final Supplier<WhenCanAllSix> MOST = () -> Scene.allFree(8, 14);

    public static void main(String[] args) {
        nothingIsChanged();
        notByTicks();
        twoDinners();
        two();
        fixed();
        fairDinners();
        ninetyNineAtMost();
        fair();
        worst();
        worstRefused();
        drop();
        dropRefused();
        pairs();
        alone();
        with();
        reach();
        threeDinners();
        threeRefused();
        run();
        weeks();
        spread();
        mean();
        withHost();
        later();
        due.end();
    }

    private static int[] on(int... days) {
        return days;
    }

    private static WhenCanAllSix persons(int days, int[]... evenings) {
        return Scene.persons(days, evenings);
    }

    private static void nothingIsChanged() {
        due.sentence(31, "WHAT COMES OF IT (nothing is changed)");
        WhenCanAllSix x = Scene.rich();
        String before = Look.at(x);
        x.tick(4, 4);
        x.best(1);
        x.held(1, 1);
        x.odds(99, 99, 6);
        x.offer(9, 9, 9);
        x.never(9, 9, 9);
        x.known(4, 99);
        x.until(4, 1);
        x.first(-1);
        x.two(1);
        x.three(2);
        x.fixed();
        x.fair(3, -1);
        x.worst();
        x.drop(0);
        x.pairs();
        x.quiet();
        x.agree(0, 1);
        x.order(0);
        x.without(4);
        x.alone();
        x.with(2);
        x.reach(0);
        x.run();
        x.weeks(1);
        x.spread();
        x.mean();
        x.withHost(0);
        x.most(20, 6, 1);
        x.later(0);
        x.all();
        x.says(2, 1);
        x.judge(0, 2);
        x.leftOut(0, 2, 1);
        due.isTrue("all is as it was", Look.at(x).equals(before));
        due.row("status 12 +", i -> x.status(12 + i), 0, 0, 0, 0, 0);
    }

    /** Eight of these KINDS in turn, a 3, each FREE on other DAYS, person 1 on none. */
    private static WhenCanAllSix kinds(int... kinds) {
        WhenCanAllSix x = Scene.nobody(14);
        for (int p = 0; p < 8; p++) {
            x.person(kinds[p % kinds.length], 3, 6);
            for (int day = p; day < 14 && p != 1; day += 1 + p % 4) {
                x.free(p, day, true);
            }
            x.out(p, p % 3);
        }
        x.ask(0, 4);
        x.ask(1, 4);
        return x;
    }

    private static void notByTicks() {
        due.sentence(21, "THERE on a DAY: those (bits) for whom it is FREE.");
        WhenCanAllSix x = kinds(0, 1, 2, 3, 4, 5, 1, 2);
        WhenCanAllSix persons = kinds(0);
        due.isTrue("the TICKS differ", x.count(0) != persons.count(0));
        due.promise(29);
        due.row("two", x::two, persons.two(0), persons.two(1));
        due.promise(30);
        due.is("fixed", x.fixed(), persons.fixed());
        due.promise(31);
        due.row("fair(3, i)", i -> x.fair(3, i), persons.fair(3, 0), persons.fair(3, 1), persons.fair(3, 2));
        due.promise(33);
        due.row("drop", x::drop, persons.drop(0), persons.drop(1));
        due.promise(34);
        due.is("pairs", x.pairs(), persons.pairs());
        due.promise(41);
        due.is("alone", x.alone(), persons.alone());
        due.promise(44);
        due.row("three", x::three, persons.three(0), persons.three(1), persons.three(2));
        due.promise(45);
        due.is("run", x.run(), persons.run());
        due.promise(48);
        due.is("mean", x.mean(), persons.mean());
        for (int i = 0; i < 8; i++) {
            due.promise(42);
            due.is("with " + i, x.with(i), persons.with(i));
            due.promise(43);
            due.is("reach " + i, x.reach(i), persons.reach(i));
            due.promise(46);
            due.is("weeks " + i, x.weeks(i), persons.weeks(i));
            due.promise(49);
            due.is("withHost " + i, x.withHost(i), persons.withHost(i));
            due.promise(51);
            due.is("later " + i, x.later(i), persons.later(i));
        }
        due.promise(27);
        due.is("known", x.known(0, 1), persons.known(0, 1));
        due.promise(22);
        due.is("all", x.all(), persons.all());
        due.promise(33);
        due.row("drop the POLITE who is never THERE", leavesTwo(1)::drop, 1, 2);
        due.row("drop the HALF who is never THERE", leavesTwo(3)::drop, 1, 2);
        due.promise(49);
        WhenCanAllSix polite = leavesTwo(1);
        polite.ask(0, 1);
        due.row("withHost, a POLITE who is never THERE", polite::withHost, -1, -1, -1);
    }

    /** Without person 1, who is of this KIND and FREE on no DAY, the others are all THERE on two DAYS. */
    private static WhenCanAllSix leavesTwo(int kind) {
        WhenCanAllSix x = Scene.nobody(5);
        Scene.free(x, x.person(0, 0, 6), 0, 3, 4);
        x.person(kind, 0, 6);
        Scene.free(x, x.person(0, 0, 6), 3, 4);
        return x;
    }

    private static void twoDinners() {
        due.sentence(29, "TWO dinners: two DAYS, the earlier and the later, so that most are THERE on one of them "
            + "at least, of several the first by rows: how many; the i-th DAY (NONE: fewer than two DAYS).");
        due.rowFromNone("two of two DAYS", Scene.nobody(2)::two, 0, 0, 1);
        due.rowFromNone("two: of several the first", MOST.get()::two, 8, 0, 1);
        due.rowFromNone("two: the last row", persons(14, on(12), on(13))::two, 2, 12, 13);
        due.rowFromNone("two: 0 and 2 ahead of 1 and 2", persons(3, on(0, 1), on(2))::two, 2, 0, 2);
        due.rowFromNone("two: 0 and 3 ahead of 1 and 2", persons(4, on(0, 1), on(2, 3))::two, 2, 0, 2);
        WhenCanAllSix twice = persons(4, on(0, 1), on(0, 1), on(2), on(3), on(3));
        due.rowFromNone("two: who is THERE on both is one", twice::two, 4, 0, 3);
        due.rowFromNone("two: not by TICKS", Scene.eight()::two, 0, 0, 1);
        due.is("two(NONE) of one DAY", Scene.allFree(8, 1).two(-1), Due.STUCK);
    }

    private static void two() {
        due.sentence(29, "TWO: how many (i NONE), the i-th DAY (0, 1). BAD; STUCK: fewer than two DAYS.");
        due.limits(-1, 1, RICH, "two(v)", (x, v) -> x.two(v));
        due.limits(-1, 1, () -> Scene.nobody(2), "two(v)", (x, v) -> x.two(v));
        for (int i = -1; i <= 1; i++) {
            int which = i;
            due.refused(Due.STUCK, () -> Scene.allFree(8, 1), "two(" + i + ") of one DAY", x -> x.two(which));
        }
        due.refused(Due.BAD, () -> Scene.nobody(1), "two(2) of one DAY, BAD ahead of STUCK", x -> x.two(2));
        due.refused(Due.BAD, () -> Scene.nobody(1), "two(-2) of one DAY, BAD ahead of STUCK", x -> x.two(-2));
    }

    private static void fixed() {
        due.sentence(30, "FIXED: the day of the week (0 to 6: DAYS that are it modulo 7) on which most are THERE, "
            + "all its DAYS together, of several the first.");
        due.is("fixed of nobody on 1 DAY", Scene.nobody(1).fixed(), 0);
        due.is("fixed of nobody on 14 DAYS", Scene.nobody(14).fixed(), 0);
        due.is("fixed, all alike", MOST.get().fixed(), 0);
        due.is("fixed, the last of the week", persons(7, on(6)).fixed(), 6);
        for (int r = 0; r < 7; r++) {
            due.is("fixed, THERE on " + r + " alone", persons(7, on(r)).fixed(), r);
            due.is("fixed, THERE on " + (7 + r) + " alone", persons(14, on(7 + r)).fixed(), r);
        }
        due.is("fixed, 7 is 0", persons(8, on(1), on(7), on(7)).fixed(), 0);
        due.is("fixed, 13 is 6", persons(14, on(13)).fixed(), 6);
        due.is("fixed, both its DAYS together", persons(14, on(3, 10), on(5), on(5, 12), on(12)).fixed(), 5);
        due.is("fixed, one who is THERE on both counts twice", persons(14, on(3, 10), on(2)).fixed(), 3);
        due.is("fixed, of several the first", persons(14, on(9, 4, 11), on(2)).fixed(), 2);
        due.sentence(30, "FIXED.");
        due.taken(Scene::fresh, "fixed of nobody", WhenCanAllSix::fixed);
        due.taken(RICH, "fixed", WhenCanAllSix::fixed);
    }

    private static void fairDinners() {
        due.sentence(31, "FAIR of k dinners (1 to 3): k DAYS, earlier ones first, so that, OUT being 1 more for each "
            + "of them on which one isn't THERE (99 at most), the greatest OUT is least, then all OUT together least, "
            + "of several the first by rows: that greatest; the i-th DAY.");
        for (int k = 1; k <= 3; k++) {
            int dinners = k;
            WhenCanAllSix all = MOST.get();
            due.is("fair, all are THERE", all.fair(k, -1), 0);
            due.row("fair, of several the first", i -> all.fair(dinners, i), on012(k));
            WhenCanAllSix few = persons(k, on(), on(0));
            due.is("fair, just as many DAYS", few.fair(k, -1), k);
            due.row("fair, just as many DAYS", i -> few.fair(dinners, i), on012(k));
        }
        due.rowFromNone("fair(1, i), the last", i -> persons(14, on(13)).fair(1, i), 0, 13);
        due.rowFromNone("fair(2, i), the last", i -> persons(14, on(12, 13)).fair(2, i), 0, 12, 13);
        due.rowFromNone("fair(3, i), the last", i -> persons(14, on(11, 12, 13)).fair(3, i), 0, 11, 12, 13);
        WhenCanAllSix greatest = persons(2, on(0), on(0), on(0), on(1));
        greatest.out(3, 3);
        due.rowFromNone("fair(1, i): the greatest ahead of all together", i -> greatest.fair(1, i), 3, 1);
        greatest.out(3, 1);
        greatest.out(0, 1);
        due.rowFromNone("fair(1, i): then all together", i -> greatest.fair(1, i), 2, 0);
        WhenCanAllSix rows = persons(4, on(0, 1), on(2, 3));
        due.rowFromNone("fair(2, i): 0 and 2 ahead of 0 and 3, 1 and 2", i -> rows.fair(2, i), 1, 0, 2);
        WhenCanAllSix twice = persons(3, on(0, 2), on(1, 2), on());
        due.rowFromNone("fair(2, i): one who isn't THERE on both has 2 more", i -> twice.fair(2, i), 2, 0, 2);
        due.is("nothing is changed", twice.status(6), 0);
    }

    private static long[] on012(int k) {
        long[] days = new long[k];
        for (int i = 0; i < k; i++) {
            days[i] = i;
        }
        return days;
    }

    private static void ninetyNineAtMost() {
        due.sentence(31, "OUT being 1 more for each of them on which one isn't THERE (99 at most),");
        WhenCanAllSix x = persons(2, on(1), on(0));
        x.out(0, 99);
        due.rowFromNone("fair(1, i): the greatest is 99 either way", i -> x.fair(1, i), 99, 0);
        WhenCanAllSix y = persons(2, on(0), on(1));
        y.out(0, 99);
        due.rowFromNone("fair(1, i): all together, 99 at most", i -> y.fair(1, i), 99, 1);
        WhenCanAllSix z = persons(3, on());
        z.out(0, 97);
        due.is("fair(1, NONE)", z.fair(1, -1), 98);
        due.is("fair(2, NONE)", z.fair(2, -1), 99);
        due.is("fair(3, NONE)", z.fair(3, -1), 99);
        WhenCanAllSix full = Scene.eight();
        for (int p = 0; p < 8; p++) {
            full.out(p, 99);
        }
        due.rowFromNone("fair(3, i), all at 99", i -> full.fair(3, i), 99, 0, 1, 2);
    }

    private static void fair() {
        due.sentence(31, "FAIR of k: the greatest OUT (i NONE), the i-th DAY. BAD; STUCK: fewer DAYS than k, or nobody.");
        due.limits(1, 3, RICH, "fair(v, NONE)", (x, v) -> x.fair(v, -1));
        due.limits(-1, 0, RICH, "fair(1, v)", (x, v) -> x.fair(1, v));
        due.limits(-1, 1, RICH, "fair(2, v)", (x, v) -> x.fair(2, v));
        due.limits(-1, 2, RICH, "fair(3, v)", (x, v) -> x.fair(3, v));
        due.limits(-1, 2, () -> Scene.allFree(1, 3), "fair(3, v)", (x, v) -> x.fair(3, v));
        due.refused(Due.STUCK, () -> Scene.allFree(8, 2), "fair(3, 0) of two DAYS", x -> x.fair(3, 0));
        due.refused(Due.STUCK, () -> Scene.allFree(8, 1), "fair(2, NONE) of one DAY", x -> x.fair(2, -1));
        due.refused(Due.STUCK, () -> Scene.nobody(14), "fair(1, NONE) of nobody", x -> x.fair(1, -1));
        due.refused(Due.STUCK, () -> Scene.nobody(14), "fair(3, 2) of nobody", x -> x.fair(3, 2));
        due.refused(Due.BAD, () -> Scene.nobody(1), "fair(4, 0) of nobody, BAD ahead of STUCK", x -> x.fair(4, 0));
        due.refused(Due.BAD, () -> Scene.nobody(1), "fair(0, NONE) of nobody, BAD ahead of STUCK", x -> x.fair(0, -1));
        due.refused(Due.BAD, () -> Scene.nobody(1), "fair(2, 2) of nobody, BAD ahead of STUCK", x -> x.fair(2, 2));
        due.refused(Due.BAD, () -> Scene.allFree(1, 1), "fair(3, 3) of one DAY, BAD ahead of STUCK", x -> x.fair(3, 3));
    }

    private static void worst() {
        due.sentence(32, "WORST: who has most OUT, of several the first.");
        due.is("worst of one", persons(1, on()).worst(), 0);
        WhenCanAllSix x = Scene.eight();
        due.is("worst, none was left out", x.worst(), 0);
        for (int p = 7; p >= 0; p--) {
            x.out(p, 9 - p);
            due.is("worst, by one more", x.worst(), p);
        }
        x.out(3, 99);
        x.out(4, 99);
        due.is("worst, of several the first", x.worst(), 3);
    }

    private static void worstRefused() {
        due.sentence(32, "WORST. STUCK: nobody.");
        due.refused(Due.STUCK, Scene::fresh, "worst", WhenCanAllSix::worst);
        due.taken(() -> persons(1, on()), "worst of one", WhenCanAllSix::worst);
    }

    private static void drop() {
        due.sentence(33, "DROP: who, if he needn't come, leaves most DAYS on which all the others are THERE, "
            + "of several the first; how many such DAYS.");
        due.row("drop the only one: all DAYS", persons(14, on())::drop, 0, 14);
        due.row("drop: of several the first, all DAYS", MOST.get()::drop, 0, 14);
        due.row("drop: of several the first, no DAY", persons(3, on(), on(), on())::drop, 0, 0);
        due.row("drop the last", persons(14, on(0, 13), on(0, 13), on(5))::drop, 2, 2);
        for (int p = 0; p < 8; p++) {
            WhenCanAllSix x = MOST.get();
            x.clear(p);
            due.row("drop who is never THERE", x::drop, p, 14);
        }
        due.row("drop: he himself may be THERE", persons(3, on(0, 1), on(1, 2), on(1))::drop, 0, 1);
        due.row("drop: DAYS, not people", persons(4, on(0, 1), on(1, 2, 3), on(0, 1, 2))::drop, 0, 2);
    }

    private static void dropRefused() {
        due.sentence(33, "DROP: who (what 0), how many DAYS (1). BAD; STUCK: nobody.");
        due.limits(0, 1, RICH, "drop(v)", (x, v) -> x.drop(v));
        due.refused(Due.STUCK, Scene::fresh, "drop(0) of nobody", x -> x.drop(0));
        due.refused(Due.STUCK, Scene::fresh, "drop(1) of nobody", x -> x.drop(1));
        due.refused(Due.BAD, Scene::fresh, "drop(2) of nobody, BAD ahead of STUCK", x -> x.drop(2));
        due.refused(Due.BAD, Scene::fresh, "drop(-1) of nobody, BAD ahead of STUCK", x -> x.drop(-1));
    }

    private static void pairs() {
        due.sentence(34, "PAIRS: who two have most DAYS FREE together (of several the first by numbers): "
            + "10 times the lesser and the other; NONE: fewer than two.");
        due.is("pairs of nobody", Scene.nobody(14).pairs(), -1);
        due.is("pairs of one", Scene.allFree(1, 14).pairs(), -1);
        due.is("pairs of two who have none together", persons(2, on(0), on(1)).pairs(), 1);
        due.is("pairs: of several the first", MOST.get().pairs(), 1);
        for (int p = 0; p < 8; p++) {
            for (int q = p + 1; q < 8; q++) {
                WhenCanAllSix two = Scene.eight();
                Scene.free(two, p, 13);
                Scene.free(two, q, 13);
                due.is("pairs", two.pairs(), 10 * p + q);
            }
        }
        WhenCanAllSix x = Scene.eight();
        Scene.free(x, 6, 13);
        Scene.free(x, 7, 13);
        Scene.free(x, 2, 0, 13);
        Scene.free(x, 5, 0);
        due.is("pairs: 2 and 5 ahead of 2 and 6, 6 and 7", x.pairs(), 25);
        due.is("status(12)", x.status(12) + x.status(15), 0);
        due.sentence(34, "PAIRS; NONE.");
        due.taken(Scene::fresh, "pairs of nobody", WhenCanAllSix::pairs);
    }

    private static void alone() {
        due.sentence(41, "PEOPLE (bits) who have no DAY FREE that any other has.");
        due.is("alone of nobody", Scene.nobody(14).alone(), 0);
        due.is("alone of one", Scene.allFree(1, 14).alone(), 1);
        due.is("alone of all", MOST.get().alone(), 0);
        due.is("alone of all who have none FREE", Scene.eight().alone(), 255);
        due.is("alone", persons(14, on(0, 13), on(1, 2), on(13)).alone(), 2);
        for (int p = 0; p < 8; p++) {
            WhenCanAllSix x = MOST.get();
            x.clear(p);
            due.is("alone who has none FREE", x.alone(), 1 << p);
        }
        due.is("alone: not by TICKS", persons(3, on(0), on(1), on(2)).alone(), 7);
    }

    private static void with() {
        due.sentence(42, "DAYS (bits) on which k (0 to 8) at least are THERE. BAD.");
        due.row("with, nobody", Scene.nobody(14)::with, 16383, 0, 0, 0, 0, 0, 0, 0, 0, Due.BAD);
        due.row("with, all", MOST.get()::with, 16383, 16383, 16383, 16383, 16383, 16383, 16383, 16383, 16383);
        due.row("with", persons(3, on(0, 2), on(0))::with, 7, 5, 1, 0);
        due.limits(0, 8, RICH, "with(v)", (x, v) -> x.with(v));
        due.limits(0, 8, Scene::fresh, "with(v)", (x, v) -> x.with(v));
    }

    private static void reach() {
        due.sentence(43, "How many others have some DAY FREE that one has. BAD.");
        due.is("reach(7) of all", MOST.get().reach(7), 7);
        due.is("reach(0) of one", Scene.allFree(1, 14).reach(0), 0);
        due.row("reach", persons(14, on(0, 13), on(0), on(13), on())::reach, 2, 1, 1, 0);
        due.limits(0, 5, RICH, "reach(v)", (x, v) -> x.reach(v));
        due.limits(0, 7, Scene::eight, "reach(v)", (x, v) -> x.reach(v));
        due.refused(Due.BAD, Scene::fresh, "reach(0) of nobody", x -> x.reach(0));
    }

    private static void threeDinners() {
        due.sentence(44, "THREE dinners: three DAYS, earlier ones first, so that most are THERE on one of them "
            + "at least, of several the first by rows: how many (i NONE), the i-th DAY.");
        due.rowFromNone("three of three DAYS", Scene.nobody(3)::three, 0, 0, 1, 2);
        due.rowFromNone("three: of several the first", MOST.get()::three, 8, 0, 1, 2);
        due.rowFromNone("three: the last row", persons(14, on(11), on(12), on(13))::three, 3, 11, 12, 13);
        due.rowFromNone("three: 0, 2 and 4", persons(6, on(0, 1), on(2, 3), on(4, 5))::three, 3, 0, 2, 4);
        due.rowFromNone("three: 0, 1 and 5 ahead of 0, 2 and 5", persons(6, on(0), on(5))::three, 2, 0, 1, 5);
        due.rowFromNone("three: on one at least", persons(4, on(0, 1, 2), on(0, 1, 2), on(3))::three, 3, 0, 1, 3);
    }

    private static void threeRefused() {
        due.sentence(44, "BAD; STUCK: fewer than three DAYS.");
        due.limits(-1, 2, RICH, "three(v)", (x, v) -> x.three(v));
        due.limits(-1, 2, () -> Scene.nobody(3), "three(v)", (x, v) -> x.three(v));
        for (int i = -1; i <= 2; i++) {
            int which = i;
            due.refused(Due.STUCK, () -> Scene.allFree(8, 2), "three(" + i + ") of two DAYS", x -> x.three(which));
        }
        due.refused(Due.STUCK, () -> Scene.nobody(1), "three(NONE) of one DAY", x -> x.three(-1));
        due.refused(Due.BAD, () -> Scene.nobody(2), "three(3) of two DAYS, BAD ahead of STUCK", x -> x.three(3));
        due.refused(Due.BAD, () -> Scene.nobody(2), "three(-2) of two DAYS, BAD ahead of STUCK", x -> x.three(-2));
    }

    private static void run() {
        due.sentence(45, "The longest run of DAYS on end on which at least LEAST are THERE.");
        due.is("run of nobody", Scene.nobody(14).run(), 0);
        due.is("run of all DAYS", MOST.get().run(), 14);
        due.is("run, just LEAST on one DAY", Scene.allFree(2, 1).run(), 1);
        due.is("run, one fewer than LEAST", Scene.allFree(1, 1).run(), 0);
        WhenCanAllSix x = persons(14, on(0, 1, 3, 4, 5, 11, 12, 13));
        x.ask(1, 1);
        due.is("run, of several as long", x.run(), 3);
        x.free(0, 2, true);
        due.is("run, at the beginning", x.run(), 6);
        x.free(0, 2, false);
        x.free(0, 10, true);
        due.is("run, at the end", x.run(), 4);
        x.ask(1, 2);
        due.is("run, LEAST 2", x.run(), 0);
        WhenCanAllSix eight = MOST.get();
        eight.ask(1, 8);
        due.is("run, LEAST 8", eight.run(), 14);
        eight.free(7, 6, false);
        due.is("run, LEAST 8, but for DAY 6", eight.run(), 7);
    }

    private static void weeks() {
        due.sentence(46, "How many are THERE on all DAYS that are r (0 to 6) modulo 7, together. BAD.");
        due.row("weeks of nobody", Scene.nobody(14)::weeks, 0, 0, 0, 0, 0, 0, 0, Due.BAD);
        due.row("weeks of all", MOST.get()::weeks, 16, 16, 16, 16, 16, 16, 16, Due.BAD);
        due.row("weeks of 1 DAY", Scene.allFree(8, 1)::weeks, 8, 0, 0, 0, 0, 0, 0);
        due.row("weeks of 8 DAYS", Scene.allFree(8, 8)::weeks, 16, 8, 8, 8, 8, 8, 8);
        due.limits(0, 6, RICH, "weeks(v)", (x, v) -> x.weeks(v));
        due.limits(0, 6, () -> Scene.nobody(1), "weeks(v)", (x, v) -> x.weeks(v));
    }

    private static void spread() {
        due.sentence(47, "The greatest OUT less the least (of nobody 0).");
        due.is("spread of nobody", Scene.nobody(14).spread(), 0);
        WhenCanAllSix one = persons(1, on());
        one.out(0, 99);
        due.is("spread of one", one.spread(), 0);
        WhenCanAllSix x = Scene.eight();
        due.is("spread, all alike", x.spread(), 0);
        x.out(7, 99);
        due.is("spread, as much as can be", x.spread(), 99);
        for (int p = 0; p < 7; p++) {
            x.out(p, 98 - p);
        }
        due.is("spread, the least isn't 0", x.spread(), 7);
    }

    private static void mean() {
        due.sentence(48, "1000 times how many are THERE on all DAYS together, by how many DAYS there are (cut).");
        due.is("mean of nobody on 1 DAY", Scene.nobody(1).mean(), 0);
        due.is("mean of all", MOST.get().mean(), 8000);
        due.is("mean of one on 1 DAY", Scene.allFree(1, 1).mean(), 1000);
        due.is("mean, 1 of 14, cut", persons(14, on(13)).mean(), 71);
        due.is("mean, 5 of 3, cut", persons(3, on(0, 1, 2), on(0, 1)).mean(), 1666);
    }

    private static void withHost() {
        due.sentence(49, "The first DAY on which one and the HOST are both THERE; NONE. BAD. (NONE isn't refused.)");
        WhenCanAllSix x = persons(14, on(0, 5, 13), on(5, 13), on(13), on(1));
        due.row("withHost, the HOST himself first", x::withHost, 0, 5, 13, -1, Due.BAD);
        x.ask(0, 3);
        due.row("withHost, another HOST", x::withHost, -1, -1, -1, 1);
        x.clear(3);
        due.is("withHost of the HOST who is never THERE", x.withHost(3), -1);
        due.limits(0, 5, RICH, "withHost(v)", (y, v) -> y.withHost(v));
        due.limits(0, 7, Scene::eight, "withHost(v), NONE", (y, v) -> y.withHost(v));
        due.refused(Due.BAD, Scene::fresh, "withHost(0) of nobody", y -> y.withHost(0));
    }

    private static void later() {
        due.sentence(51, "The first DAY from one on on which at least LEAST are THERE; NONE. BAD: no such DAY. "
            + "(NONE isn't refused.)");
        WhenCanAllSix x = persons(14, on(2, 3, 13), on(2, 13), on(7));
        due.row("later", x::later, 2, 2, 2, 13, 13, 13, 13, 13, 13, 13, 13, 13, 13, 13, Due.BAD);
        x.free(1, 13, false);
        due.row("later", x::later, 2, 2, 2, -1, -1, -1, -1, -1, -1, -1, -1, -1, -1, -1);
        x.ask(1, 1);
        due.row("later, LEAST 1", x::later, 2, 2, 2, 3, 7, 7, 7, 7, 13, 13, 13, 13, 13, 13);
        x.ask(1, 3);
        due.is("later, LEAST 3", x.later(0), -1);
        due.limits(0, 8, RICH, "later(v)", (y, v) -> y.later(v));
        due.limits(0, 13, () -> Scene.nobody(14), "later(v), NONE", (y, v) -> y.later(v));
        due.limits(0, 0, () -> Scene.nobody(1), "later(v), NONE", (y, v) -> y.later(v));
    }
}
