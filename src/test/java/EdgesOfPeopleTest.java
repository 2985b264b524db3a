import java.util.function.Supplier;

/** Each sentence on DAYS and PEOPLE (promises 9 to 13 and 17), held at its edges. */
public final class EdgesOfPeopleTest {
    private static final Due due = new Due("EdgesOfPeopleTest");
    private static final Supplier<WhenCanAllSix> RICH = Scene::rich;

    public static void main(String[] args) {
        whatDaysThereAre();
        days();
        daysLimits();
        numbersOfPeople();
        aAndLikely();
        person();
        personRefused();
        freeBits();
        free();
        freeLimits();
        host();
        least();
        lose();
        ask();
        askRefused();
        howOftenOut();
        out();
        outLimits();
        personOf();
        personOfRefused();
        due.end();
    }

    private static void whatDaysThereAre() {
        due.sentence(9, "DAYS are 0 to n less 1 (n 1 to 14; 11 at first).");
        WhenCanAllSix x = new WhenCanAllSix();
        due.is("status(1) at first", x.status(1), 11);
        due.is("days(1), the fewest", x.days(1), 11);
        due.row("there, 1 DAY", x::there, 0, Due.BAD);
        due.is("there(-1)", x.there(-1), Due.BAD);
        due.is("days(14), the most", x.days(14), 1);
        due.row("there 12 +, 14 DAYS", i -> x.there(12 + i), 0, 0, Due.BAD);
        due.is("days(0)", x.days(0), Due.BAD);
        due.is("days(15)", x.days(15), Due.BAD);
        due.is("status(1)", x.status(1), 14);
    }

    private static void days() {
        due.sentence(9, "n DAYS (no DAY beyond is FREE then): how many there were.");
        WhenCanAllSix x = Scene.allFree(8, 14);
        due.is("days(14), as many", x.days(14), 14);
        due.is("FREE of 7", x.personOf(7, 3), 16383);
        due.is("days(13), one less", x.days(13), 14);
        due.row("FREE of i", i -> x.personOf(i, 3), 8191, 8191, 8191, 8191, 8191, 8191, 8191, 8191);
        due.is("days(14), one more", x.days(14), 13);
        due.is("FREE of 0: DAY 13 isn't FREE again", x.personOf(0, 3), 8191);
        due.is("there(13)", x.there(13), 0);
        due.is("days(1)", x.days(1), 14);
        due.row("FREE of i", i -> x.personOf(i, 3), 1, 1, 1, 1, 1, 1, 1, 1);
        due.is("days(2)", x.days(2), 1);
        due.row("there", x::there, 255, 0);
        WhenCanAllSix y = new WhenCanAllSix();
        y.person(5, 13, 1);
        due.is("days(1)", y.days(1), 11);
        due.is("a, a DAY beyond, is as it was", y.personOf(0, 1), 13);
    }

    private static void daysLimits() {
        due.sentence(9, "BAD.");
        due.limits(1, 14, RICH, "days(v)", (x, v) -> x.days(v));
        due.limits(1, 14, Scene::fresh, "days(v)", (x, v) -> x.days(v));
    }

    private static void numbersOfPeople() {
        due.sentence(10, "PEOPLE have numbers, 0 on, 8 at most,");
        WhenCanAllSix x = new WhenCanAllSix();
        for (int p = 0; p < 8; p++) {
            due.is("clear(" + p + ") ahead of him", x.clear(p), Due.BAD);
            due.is("person", x.person(p % 6, p, p), p);
            due.is("clear(" + p + ")", x.clear(p), 0);
        }
        due.is("person, a ninth", x.person(0, 0, 0), Due.FULL);
        due.is("clear(8)", x.clear(8), Due.BAD);
        due.is("status(0)", x.status(0), 8);
    }

    private static void aAndLikely() {
        due.sentence(10, "a (0 to 13), LIKELY (0 to 12 of 12: that he is free on a day that isn't known yet),");
        WhenCanAllSix x = new WhenCanAllSix();
        due.is("person(0, 0, 0)", x.person(0, 0, 0), 0);
        due.is("person(5, 13, 12)", x.person(5, 13, 12), 1);
        due.row("a of", i -> x.personOf(i, 1), 0, 13);
        due.row("LIKELY of", i -> x.personOf(i, 2), 0, 12);
        x.fill();
        due.row("FREE by draws: on none, on all", i -> x.personOf(i, 3), 0, 2047);
        due.is("a may be no DAY: days(1)", x.days(1), 11);
        due.is("person(2, 13, 0)", x.person(2, 13, 0), 2);
    }

    private static void person() {
        due.sentence(10, "One of the PEOPLE: the number.");
        for (int kind = 0; kind <= 5; kind++) {
            WhenCanAllSix x = new WhenCanAllSix();
            due.is("the first, of KIND " + kind, x.person(kind, 13 - kind, kind), 0);
            due.is("the second", x.person(5 - kind, kind, 12 - kind), 1);
            due.row("the first", i -> x.personOf(0, i), kind, 13 - kind, kind, 0, 0);
            due.row("the second", i -> x.personOf(1, i), 5 - kind, kind, 12 - kind, 0, 0);
        }
    }

    private static WhenCanAllSix seven() {
        WhenCanAllSix x = Scene.rich();
        x.person(4, 3, 2);
        return x;
    }

    private static void personRefused() {
        due.sentence(10, "BAD; FULL.");
        due.limits(0, 5, EdgesOfPeopleTest::seven, "person(v, 0, 0)", (x, v) -> x.person(v, 0, 0));
        due.limits(0, 13, EdgesOfPeopleTest::seven, "person(0, v, 0)", (x, v) -> x.person(0, v, 0));
        due.limits(0, 12, EdgesOfPeopleTest::seven, "person(0, 0, v)", (x, v) -> x.person(0, 0, v));
        due.refused(Due.FULL, Scene::eight, "person(5, 13, 12)", x -> x.person(5, 13, 12));
        due.refused(Due.BAD, Scene::eight, "person(6, 0, 0), BAD ahead of FULL", x -> x.person(6, 0, 0));
        due.refused(Due.BAD, Scene::eight, "person(0, 14, 0), BAD ahead of FULL", x -> x.person(0, 14, 0));
        due.refused(Due.BAD, Scene::eight, "person(0, 0, 13), BAD ahead of FULL", x -> x.person(0, 0, 13));
    }

    private static void freeBits() {
        due.sentence(17, "FREE (DAYS, bits; none at first),");
        WhenCanAllSix x = Scene.eight();
        due.row("FREE of, at first", i -> x.personOf(i, 3), 0, 0, 0, 0, 0, 0, 0, 0);
        x.free(0, 0, true);
        x.free(7, 13, true);
        due.row("FREE of", i -> x.personOf(i, 3), 1, 0, 0, 0, 0, 0, 0, 8192);
        for (int day = 0; day < 14; day++) {
            x.free(3, day, true);
            due.is("FREE of 3", x.personOf(3, 3), (2L << day) - 1);
        }
    }

    private static void free() {
        due.sentence(11, "A DAY is FREE for one, or isn't: whether it was (1, 0).");
        WhenCanAllSix x = Scene.eight();
        due.is("free(7, 13, false), it wasn't", x.free(7, 13, false), 0);
        due.is("free(7, 13, true), it wasn't", x.free(7, 13, true), 0);
        due.is("free(7, 13, true), it was", x.free(7, 13, true), 1);
        due.is("free(7, 0, true)", x.free(7, 0, true), 0);
        due.is("FREE of 7", x.personOf(7, 3), 8193);
        due.is("free(7, 13, false), it was", x.free(7, 13, false), 1);
        due.is("FREE of 7", x.personOf(7, 3), 1);
        due.is("free(0, 0, false), another", x.free(0, 0, false), 0);
        due.is("FREE of 7", x.personOf(7, 3), 1);
    }

    private static void freeLimits() {
        due.sentence(11, "BAD.");
        due.limits(0, 5, RICH, "free(v, 0, true)", (x, v) -> x.free(v, 0, true));
        due.limits(0, 5, RICH, "free(v, 4, false)", (x, v) -> x.free(v, 4, false));
        due.limits(0, 8, RICH, "free(0, v, true)", (x, v) -> x.free(0, v, true));
        due.limits(0, 8, RICH, "free(0, v, false)", (x, v) -> x.free(0, v, false));
        due.limits(0, 7, Scene::eight, "free(v, 13, true)", (x, v) -> x.free(v, 13, true));
        due.limits(0, 13, Scene::eight, "free(7, v, true)", (x, v) -> x.free(7, v, true));
        due.refused(Due.BAD, Scene::fresh, "free(0, 0, true) of nobody", x -> x.free(0, 0, true));
    }

    private static void host() {
        due.sentence(12, "HOST is one of the PEOPLE (0 at first): whom it is for.");
        WhenCanAllSix x = Scene.persons(5, Scene.on(1), Scene.on(2), Scene.on(3));
        due.is("HOST at first", x.status(2), 0);
        due.is("best(1)", x.best(1), 1);
        due.is("ask(0, 2), the last", x.ask(0, 2), 0);
        due.is("best(1)", x.best(1), 3);
        due.is("ask(0, 0), the first", x.ask(0, 0), 2);
        due.is("best(1)", x.best(1), 1);
        due.is("ask(0, 3)", x.ask(0, 3), Due.BAD);
    }

    private static void least() {
        due.sentence(12, "LEAST (1 to 8; 2 at first): fewer don't dine.");
        due.is("LEAST at first", new WhenCanAllSix().status(3), 2);
        due.row("dine, LEAST at first, as many THERE", there -> Scene.allFree((int) (long) there, 1).dine(0),
            Due.STUCK, Due.STUCK, 2, 3, 4, 5, 6, 7, 8);
        for (int least = 1; least <= 8; least++) {
            WhenCanAllSix x = Scene.allFree(8, 1);
            x.ask(1, least);
            for (int there = 8; there >= least; there--) {
                due.is("dine, LEAST " + least, x.dine(0), there);
                x.clear(there - 1);
            }
            due.is("dine, one fewer than LEAST " + least, x.dine(0), Due.STUCK);
        }
    }

    private static void lose() {
        due.sentence(12, "LOSE (0 to 12 of 12; 1 at first): how likely a FREE evening goes as a day passes.");
        due.is("LOSE at first", new WhenCanAllSix().status(4), 1);
        WhenCanAllSix x = Scene.allFree(8, 14);
        due.is("ask(2, 0)", x.ask(2, 0), 1);
        due.is("pass(99): none goes", x.pass(99), 0);
        due.is("known(13, 99)", x.known(13, 99), 1000000);
        due.is("ask(2, 12)", x.ask(2, 12), 0);
        due.is("known(13, 1)", x.known(13, 1), 0);
        due.is("pass(1): all go", x.pass(1), 112);
    }

    private static void ask() {
        due.sentence(12, "HOST (what 0), LEAST (1), LOSE (2) becomes v: what it was.");
        WhenCanAllSix x = Scene.eight();
        due.is("ask(0, 7)", x.ask(0, 7), 0);
        due.is("ask(1, 8)", x.ask(1, 8), 2);
        due.is("ask(2, 12)", x.ask(2, 12), 1);
        due.row("status 2 +", i -> x.status(2 + i), 7, 8, 12);
        due.is("ask(0, 0)", x.ask(0, 0), 7);
        due.is("ask(1, 1)", x.ask(1, 1), 8);
        due.is("ask(2, 0)", x.ask(2, 0), 12);
        due.row("status 2 +", i -> x.status(2 + i), 0, 1, 0);
    }

    private static void askRefused() {
        due.sentence(12, "becomes v: what it was. BAD.");
        due.limits(0, 2, RICH, "ask(v, 2)", (x, v) -> x.ask(v, 2));
        due.limits(0, 5, RICH, "ask(0, v)", (x, v) -> x.ask(0, v));
        due.limits(0, 7, Scene::eight, "ask(0, v)", (x, v) -> x.ask(0, v));
        due.limits(1, 8, RICH, "ask(1, v)", (x, v) -> x.ask(1, v));
        due.limits(0, 12, RICH, "ask(2, v)", (x, v) -> x.ask(2, v));
        due.limits(1, 8, Scene::fresh, "ask(1, v) of nobody", (x, v) -> x.ask(1, v));
        due.refused(Due.BAD, Scene::fresh, "ask(0, 0) of nobody", x -> x.ask(0, 0));
        due.refused(Due.BAD, Scene::fresh, "ask(0, NONE)", x -> x.ask(0, -1));
    }

    private static void howOftenOut() {
        due.sentence(13, "OUT (0 to 99: how often he was left out; 0 at first).");
        WhenCanAllSix x = Scene.allFree(3, 2);
        due.row("OUT of, at first", i -> x.personOf(i, 4), 0, 0, 0);
        x.free(2, 1, false);
        x.dine(0);
        x.dine(1);
        due.row("OUT of", i -> x.personOf(i, 4), 0, 0, 1);
        for (int times = 2; times <= 101; times++) {
            x.dine(1);
            due.is("OUT of 2, left out " + times + " times", x.personOf(2, 4), Math.min(99, times));
        }
    }

    private static void out() {
        due.sentence(13, "OUT of one becomes v: what it was.");
        WhenCanAllSix x = Scene.eight();
        due.is("out(7, 99)", x.out(7, 99), 0);
        due.is("out(0, 1)", x.out(0, 1), 0);
        due.is("out(7, 98)", x.out(7, 98), 99);
        due.row("OUT of", i -> x.personOf(i, 4), 1, 0, 0, 0, 0, 0, 0, 98);
        due.is("out(0, 0)", x.out(0, 0), 1);
        due.is("status(6)", x.status(6), 98);
    }

    private static void outLimits() {
        due.sentence(13, "OUT of one becomes v: what it was. BAD.");
        due.limits(0, 5, RICH, "out(v, 3)", (x, v) -> x.out(v, 3));
        due.limits(0, 7, Scene::eight, "out(v, 3)", (x, v) -> x.out(v, 3));
        due.limits(0, 99, RICH, "out(2, v)", (x, v) -> x.out(2, v));
        due.refused(Due.BAD, Scene::fresh, "out(0, 0) of nobody", x -> x.out(0, 0));
    }

    private static void personOf() {
        due.sentence(17, "Of one of the PEOPLE: KIND (0), a (1), LIKELY (2), FREE (3), OUT (4).");
        WhenCanAllSix x = new WhenCanAllSix();
        x.days(14);
        x.person(0, 0, 0);
        x.person(5, 13, 12);
        x.out(1, 99);
        for (int day = 0; day < 14; day++) {
            x.free(1, day, true);
        }
        due.row("personOf(0, i), the least of all", i -> x.personOf(0, i), 0, 0, 0, 0, 0);
        due.row("personOf(1, i), the greatest of all", i -> x.personOf(1, i), 5, 13, 12, 16383, 99);
    }

    private static void personOfRefused() {
        due.sentence(17, "FREE (3), OUT (4). BAD.");
        due.limits(0, 5, RICH, "personOf(v, 0)", (x, v) -> x.personOf(v, 0));
        due.limits(0, 7, Scene::eight, "personOf(v, 4)", (x, v) -> x.personOf(v, 4));
        due.limits(0, 4, RICH, "personOf(5, v)", (x, v) -> x.personOf(5, v));
        due.refused(Due.BAD, Scene::fresh, "personOf(0, 0) of nobody", x -> x.personOf(0, 0));
    }
}
