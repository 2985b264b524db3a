import java.util.function.Supplier;

/** Each sentence on TICKS, COUNTS and the best DAY (promises 18 to 23 and 35 to 39), held at its edges. */
public final class EdgesOfTicksTest {
    private static final Due due = new Due("EdgesOfTicksTest");
    private static final Supplier<WhenCanAllSix> RICH = Scene::rich;

    public static void main(String[] args) {
        oneAfterTheOther();
        person();
        polite();
        half();
        waiting();
        choosy();
        hoping();
        tick();
        countTogether();
        count();
        bestOfMostCount();
        best();
        thereForWhomFree();
        there();
        allDays();
        all();
        howManyTwos();
        held();
        quiet();
        agree();
        votes();
        order();
        without();
        due.end();
    }

    /** One more of a KIND, FREE on these DAYS. */
    private static WhenCanAllSix add(WhenCanAllSix x, int kind, int a, int... free) {
        Scene.free(x, x.person(kind, a, 6), free);
        return x;
    }

    private static WhenCanAllSix one(int days, int kind, int a, int... free) {
        return add(Scene.nobody(days), kind, a, free);
    }

    private static void ticks(WhenCanAllSix x, int person, long... want) {
        due.row("tick of " + person + " for", day -> x.tick(person, day), want);
    }

    private static void oneAfterTheOther() {
        due.sentence(18, "A TICK of one for a DAY: 0 no, 1 perhaps, 2 yes; they tick by numbers, "
            + "one after the other, and see the TICKS of those ahead.");
        WhenCanAllSix x = one(3, 2, 1, 0, 1);
        add(x, 0, 0, 0);
        add(x, 2, 1, 0, 1, 2);
        ticks(x, 0, 1, 1, 0);
        ticks(x, 1, 2, 0, 0);
        ticks(x, 2, 2, 1, 1);
        WhenCanAllSix chain = one(1, 2, 0, 0);
        for (int p = 1; p < 8; p++) {
            add(chain, 2, p, 0);
        }
        due.row("each WAITS for all ahead: tick for 0 of", p -> chain.tick(p, 0), 2, 2, 2, 2, 2, 2, 2, 2);
        chain.free(3, 0, false);
        due.row("but for 3: tick for 0 of", p -> chain.tick(p, 0), 2, 2, 2, 0, 1, 1, 1, 1);
    }

    private static void person() {
        due.sentence(18, "PERSON: 2, if it is FREE, else 0.");
        ticks(one(14, 0, 5, 0, 13), 0, 2, 0, 0, 0, 0, 0, 0, 0, 0, 0, 0, 0, 0, 2);
        ticks(one(1, 0, 0), 0, 0);
    }

    private static void polite() {
        due.sentence(18, "POLITE: 2.");
        ticks(one(14, 1, 5), 0, 2, 2, 2, 2, 2, 2, 2, 2, 2, 2, 2, 2, 2, 2);
        ticks(one(3, 1, 0, 0, 2), 0, 2, 2, 2);
    }

    private static void half() {
        due.sentence(18, "HALF: 2, if FREE, else 1.");
        ticks(one(14, 3, 5, 0, 13), 0, 2, 1, 1, 1, 1, 1, 1, 1, 1, 1, 1, 1, 1, 2);
        ticks(one(1, 3, 0), 0, 1);
    }

    private static void waiting() {
        due.sentence(18, "WAITING: 0, if it isn't FREE; 2, if at least a of those ahead have a 2 for it; else 1.");
        ticks(one(4, 2, 0, 0, 3), 0, 2, 0, 0, 2);
        ticks(one(4, 2, 1, 0, 3), 0, 1, 0, 0, 1);
        WhenCanAllSix ahead = Scene.nobody(6);
        add(ahead, 0, 0, 0, 1, 2, 5);
        add(ahead, 3, 0, 0, 1);
        add(ahead, 1, 0);
        add(ahead, 2, 9, 0, 1, 2, 3);
        due.row("2s ahead for", day -> ahead.votes(day, 2), 3, 3, 2, 1, 1, 2);
        add(ahead, 2, 2, 0, 1, 2, 3, 5);
        ticks(ahead, 4, 2, 2, 2, 1, 0, 2);
        add(ahead, 2, 3, 0, 2, 3, 4, 5);
        ticks(ahead, 5, 2, 0, 2, 1, 1, 2);
        add(ahead, 2, 13, 0, 1, 2, 3, 4);
        ticks(ahead, 6, 1, 1, 1, 1, 1, 0);
        add(ahead, 2, 5, 0, 1, 2);
        ticks(ahead, 7, 2, 1, 1, 0, 0, 0);
        due.is("a 2 of a POLITE who isn't FREE counts", add(one(1, 1, 0), 2, 1, 0).tick(1, 0), 2);
        due.is("a 1 doesn't count", add(one(1, 3, 0), 2, 1, 0).tick(1, 0), 1);
        due.is("nor a 2 of one behind", add(one(1, 2, 1, 0), 0, 0, 0).tick(0, 0), 1);
    }

    private static void choosy() {
        due.sentence(18, "CHOOSY: 2, if it is FREE and is the DAY with most 2s of those ahead (of several the first), "
            + "else 0.");
        ticks(one(3, 4, 0, 0, 1, 2), 0, 2, 0, 0);
        ticks(one(3, 4, 0, 1, 2), 0, 0, 0, 0);
        ticks(add(one(14, 0, 0, 13), 4, 0, 0, 13), 1, 0, 0, 0, 0, 0, 0, 0, 0, 0, 0, 0, 0, 0, 2);
        ticks(add(one(4, 0, 0, 1, 3), 4, 0, 0, 1, 2, 3), 1, 0, 2, 0, 0);
        ticks(add(one(4, 0, 0, 1, 3), 4, 0, 0, 2, 3), 1, 0, 0, 0, 0);
        ticks(add(add(one(4, 0, 0, 1), 0, 0, 1, 3), 4, 0, 1, 3), 2, 0, 2, 0, 0);
        ticks(add(add(add(one(3, 3, 0, 1), 3, 0), 0, 0, 2), 4, 0, 0, 1, 2), 3, 0, 2, 0);
        ticks(add(add(add(one(3, 3, 0), 3, 0), 0, 0, 2), 4, 0, 0, 1, 2), 3, 0, 0, 2);
        WhenCanAllSix behind = add(add(one(3, 4, 0, 0, 2), 0, 0, 2), 0, 0, 2);
        ticks(behind, 0, 2, 0, 0);
    }

    private static void hoping() {
        due.sentence(18, "HOPING: 2, if it is FREE and is DAY a, else 0.");
        ticks(one(3, 5, 0, 0, 1, 2), 0, 2, 0, 0);
        ticks(one(3, 5, 2, 0, 1, 2), 0, 0, 0, 2);
        ticks(one(3, 5, 2, 0, 1), 0, 0, 0, 0);
        ticks(one(3, 5, 3, 0, 1, 2), 0, 0, 0, 0);
        WhenCanAllSix last = one(14, 5, 13, 13);
        due.row("tick 12 +", i -> last.tick(0, 12 + i), 0, 2);
        last.days(13);
        due.is("count(12): DAY a is no DAY any more", last.count(12), 0);
    }

    private static void tick() {
        due.sentence(18, "TICK. BAD.");
        due.limits(0, 5, RICH, "tick(v, 4)", (x, v) -> x.tick(v, 4));
        due.limits(0, 8, RICH, "tick(1, v)", (x, v) -> x.tick(1, v));
        due.limits(0, 7, Scene::eight, "tick(v, 13)", (x, v) -> x.tick(v, 13));
        due.limits(0, 13, Scene::eight, "tick(7, v)", (x, v) -> x.tick(7, v));
        due.refused(Due.BAD, Scene::fresh, "tick(0, 0) of nobody", x -> x.tick(0, 0));
    }

    private static void countTogether() {
        due.sentence(19, "COUNT of a DAY: all TICKS together.");
        due.row("count of nobody", Scene.nobody(2)::count, 0, 0, Due.BAD);
        due.row("count of one 1", one(2, 3, 0)::count, 1, 1);
        due.row("count of eight 2s", Scene.allFree(8, 14)::count, 16, 16, 16, 16, 16, 16, 16, 16, 16, 16, 16, 16, 16, 16);
        due.row("count of 2, 1, 0", add(add(one(2, 0, 0, 0), 3, 0), 2, 0)::count, 3, 1);
    }

    private static void count() {
        due.sentence(19, "COUNT. BAD.");
        due.limits(0, 8, RICH, "count(v)", (x, v) -> x.count(v));
        due.limits(0, 13, () -> Scene.nobody(14), "count(v)", (x, v) -> x.count(v));
        due.limits(0, 0, () -> Scene.nobody(1), "count(v)", (x, v) -> x.count(v));
    }

    private static void bestOfMostCount() {
        due.sentence(20, "BEST: the DAY of most COUNT, of several the first; for the HOST: likewise of those "
            + "for which the HOST has a 2; NONE.");
        due.row("best of the last DAY", one(14, 0, 0, 13)::best, 13, 13);
        due.row("best of two of most", one(5, 0, 0, 2, 4)::best, 2, 2);
        due.row("best of all with no TICK", one(5, 0, 0)::best, 0, -1);
        due.row("best of all with a 1: no 2 of the HOST", one(5, 3, 0)::best, 0, -1);
        due.row("best by COUNT, not by 2s", add(add(one(3, 0, 0, 2), 3, 0, 0), 3, 0, 0)::best, 0, 2);
        WhenCanAllSix x = add(add(one(5, 0, 0, 1, 3, 4), 0, 0, 0, 3, 4), 0, 0, 0, 2);
        due.row("best: of several of two 2s the first", x::best, 0, 3);
        x.ask(0, 2);
        due.row("best for HOST 2", x::best, 0, 0);
        x.free(2, 0, false);
        due.row("best for HOST 2", x::best, 3, 2);
        WhenCanAllSix waits = add(one(2, 2, 1, 0), 0, 0, 0);
        due.row("best for a WAITING with a 1", waits::best, 0, -1);
        WhenCanAllSix polite = add(one(3, 1, 0), 0, 0, 2);
        due.row("best for a POLITE, FREE or not", polite::best, 2, 2);
    }

    private static void best() {
        due.sentence(20, "BEST (what 0), for the HOST (1; NONE). BAD; STUCK: nobody. (NONE isn't refused.)");
        due.limits(0, 1, RICH, "best(v)", (x, v) -> x.best(v));
        due.refused(Due.STUCK, Scene::fresh, "best(0) of nobody", x -> x.best(0));
        due.refused(Due.STUCK, Scene::fresh, "best(1) of nobody", x -> x.best(1));
        due.refused(Due.BAD, Scene::fresh, "best(2) of nobody, BAD ahead of STUCK", x -> x.best(2));
        due.refused(Due.BAD, Scene::fresh, "best(-1) of nobody, BAD ahead of STUCK", x -> x.best(-1));
        due.taken(() -> one(1, 0, 0), "best(1), NONE", x -> x.best(1));
        due.is("best(1)", one(1, 0, 0).best(1), Due.NONE);
        due.is("best(0) of one on one DAY", one(1, 0, 0).best(0), 0);
    }

    private static void thereForWhomFree() {
        due.sentence(21, "THERE on a DAY: those (bits) for whom it is FREE.");
        due.row("there, nobody", Scene.nobody(2)::there, 0, 0, Due.BAD);
        due.row("there, all", Scene.allFree(8, 2)::there, 255, 255);
        due.row("there: not by TICKS", add(add(one(2, 1, 0, 0), 3, 0), 4, 0, 1)::there, 1, 4);
        WhenCanAllSix x = Scene.eight();
        for (int p = 0; p < 8; p++) {
            x.free(p, p, true);
            x.free(p, 13, true);
        }
        due.row("there", x::there, 1, 2, 4, 8, 16, 32, 64, 128, 0, 0, 0, 0, 0, 255);
    }

    private static void there() {
        due.sentence(21, "THERE on a DAY. BAD.");
        due.limits(0, 8, RICH, "there(v)", (x, v) -> x.there(v));
        due.limits(0, 13, () -> Scene.nobody(14), "there(v)", (x, v) -> x.there(v));
        due.limits(0, 0, () -> Scene.nobody(1), "there(v)", (x, v) -> x.there(v));
    }

    private static void allDays() {
        due.sentence(22, "ALL: DAYS (bits) on which all PEOPLE are THERE.");
        WhenCanAllSix x = Scene.allFree(8, 14);
        due.is("all", x.all(), 16383);
        x.free(7, 13, false);
        due.is("all", x.all(), 8191);
        x.free(0, 0, false);
        due.is("all", x.all(), 8190);
        x.clear(3);
        due.is("all", x.all(), 0);
        due.is("all: not by TICKS", one(3, 1, 0, 1).all(), 2);
    }

    private static void all() {
        due.sentence(22, "ALL (of nobody: all DAYS).");
        due.is("all of nobody on 1 DAY", Scene.nobody(1).all(), 1);
        due.is("all of nobody on 14 DAYS", Scene.nobody(14).all(), 16383);
        due.is("all of one", one(14, 0, 0).all(), 0);
    }

    private static void howManyTwos() {
        due.sentence(23, "HOLDS of one: how many 2s he has; IDLE ones: 2s for DAYS that aren't BEST.");
        due.row("held(0, i) of none", i -> one(14, 0, 0).held(0, i), 0, 0);
        due.row("held(0, i) of all", i -> one(14, 1, 0).held(0, i), 14, 13);
        due.row("held(0, i) of one, BEST", i -> one(14, 0, 0, 13).held(0, i), 1, 0);
        due.row("held(0, i): a 1 is no 2", i -> one(14, 3, 0, 5).held(0, i), 1, 0);
        WhenCanAllSix x = add(add(one(4, 0, 0, 0), 0, 0, 2, 3), 0, 0, 3);
        due.row("BEST is 3, for HOST 0 it is 0: held(i, 1)", i -> x.held(i, 1), 1, 1, 0);
        WhenCanAllSix two = one(4, 0, 0, 1, 3);
        due.row("two DAYS of most COUNT: the first is BEST: held(0, i)", i -> two.held(0, i), 2, 1);
    }

    private static void held() {
        due.sentence(23, "HOLDS of one (what 0), IDLE ones (1). BAD.");
        due.limits(0, 5, RICH, "held(v, 0)", (x, v) -> x.held(v, 0));
        due.limits(0, 7, Scene::eight, "held(v, 1)", (x, v) -> x.held(v, 1));
        due.limits(0, 1, RICH, "held(5, v)", (x, v) -> x.held(5, v));
        due.refused(Due.BAD, Scene::fresh, "held(0, 0) of nobody", x -> x.held(0, 0));
    }

    private static void quiet() {
        due.sentence(35, "DAYS (bits) for which nobody has a 2.");
        due.is("quiet of nobody on 1 DAY", Scene.nobody(1).quiet(), 1);
        due.is("quiet of nobody on 14 DAYS", Scene.nobody(14).quiet(), 16383);
        due.is("quiet with a POLITE", one(14, 1, 0).quiet(), 0);
        due.is("quiet with 1s", one(14, 3, 0).quiet(), 16383);
        due.is("quiet of the most PEOPLE, with a POLITE", Scene.eight().quiet(), 0);
        for (int day = 0; day < 14; day++) {
            WhenCanAllSix x = Scene.nobody(14);
            for (int p = 0; p < 8; p++) {
                x.person(0, 0, 0);
            }
            x.free(day % 8, day, true);
            due.is("quiet but for " + day, x.quiet(), 16383 - (1 << day));
        }
        due.is("quiet but for the first and the last", add(one(14, 0, 0, 0), 0, 0, 13).quiet(), 8190);
        due.is("quiet: FREE, but no 2", one(3, 5, 1, 0, 1, 2).quiet(), 5);
    }

    private static void agree() {
        due.sentence(36, "DAYS (bits) for which two both have a 2. BAD: also the same.");
        due.is("agree(0, 7), all", Scene.allFree(8, 14).agree(0, 7), 16383);
        WhenCanAllSix x = add(add(one(14, 0, 0, 0, 13), 3, 0, 13), 1, 0);
        due.is("agree(0, 1), the last", x.agree(0, 1), 8192);
        due.is("agree(1, 0)", x.agree(1, 0), 8192);
        due.is("agree(2, 0), FREE or not", x.agree(2, 0), 8193);
        due.is("agree of none", add(one(2, 0, 0, 0), 0, 0, 1).agree(0, 1), 0);
        due.limits(0, 5, RICH, "agree(v, 3)", (y, v) -> y.agree(v, 3));
        due.limits(0, 5, RICH, "agree(3, v)", (y, v) -> y.agree(3, v));
        due.limits(0, 6, Scene::eight, "agree(v, 7)", (y, v) -> y.agree(v, 7));
        for (int p = 0; p < 6; p++) {
            int same = p;
            due.refused(Due.BAD, RICH, "agree of the same, " + p, y -> y.agree(same, same));
        }
    }

    private static void votes() {
        due.sentence(37, "How many have a TICK (0 to 2) for a DAY. BAD.");
        due.row("votes(0, i) of nobody", i -> Scene.nobody(1).votes(0, i), 0, 0, 0, Due.BAD);
        due.row("votes(13, i) of all", i -> Scene.allFree(8, 14).votes(13, i), 0, 0, 8);
        WhenCanAllSix x = add(add(add(one(2, 0, 0, 0), 3, 0), 3, 0), 1, 0);
        due.row("votes(0, i)", i -> x.votes(0, i), 0, 2, 2);
        due.row("votes(1, i)", i -> x.votes(1, i), 1, 2, 1);
        due.limits(0, 8, RICH, "votes(v, 2)", (y, v) -> y.votes(v, 2));
        due.limits(0, 13, Scene::eight, "votes(v, 0)", (y, v) -> y.votes(v, 0));
        due.limits(0, 2, RICH, "votes(8, v)", (y, v) -> y.votes(8, v));
    }

    private static void order() {
        due.sentence(38, "DAYS by COUNT, most first, of several the first by number: the i-th. BAD.");
        due.row("order of one DAY", Scene.nobody(1)::order, 0, Due.BAD);
        due.row("order of nobody", Scene.nobody(14)::order, 0, 1, 2, 3, 4, 5, 6, 7, 8, 9, 10, 11, 12, 13, Due.BAD);
        due.row("order, the last first", one(14, 0, 0, 13)::order, 13, 0, 1, 2, 3, 4, 5, 6, 7, 8, 9, 10, 11, 12);
        due.row("order", add(one(5, 3, 0, 4, 1), 0, 0, 4, 2)::order, 4, 2, 1, 0, 3);
        due.limits(0, 8, RICH, "order(v)", (x, v) -> x.order(v));
        due.limits(0, 13, Scene::eight, "order(v)", (x, v) -> x.order(v));
    }

    private static void without() {
        due.sentence(39, "BEST, if the TICKS of one were left out (all others as they tick). BAD.");
        due.is("without the only one: of several the first", one(14, 0, 0, 13).without(0), 0);
        WhenCanAllSix x = add(add(one(4, 0, 0, 3), 0, 0, 1, 2), 0, 0, 2);
        due.row("without", x::without, 2, 2, 1);
        WhenCanAllSix seen = add(add(one(3, 0, 0, 2), 4, 0, 2), 3, 0, 1);
        due.row("without: the CHOOSY behind ticks as he does", seen::without, 2, 2, 2);
        WhenCanAllSix waits = add(add(one(3, 1, 0), 2, 1, 2), 3, 0, 0);
        due.row("without: the WAITING behind ticks as he does", waits::without, 2, 0, 2);
        due.limits(0, 5, RICH, "without(v)", (y, v) -> y.without(v));
        due.limits(0, 7, Scene::eight, "without(v)", (y, v) -> y.without(v));
        due.refused(Due.BAD, Scene::fresh, "without(0) of nobody", y -> y.without(0));
    }
}
