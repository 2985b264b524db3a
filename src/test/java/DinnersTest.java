import java.util.function.Supplier;

/** Promises 29 to 34, 41 to 49 and 51: which DAYS for whom, and who is left out. */
public final class DinnersTest {
    private static final Due due = new Due("DinnersTest");
    private static final Supplier<WhenCanAllSix> SIX = Scene::six;

    public static void main(String[] args) {
        two();
        fixed();
        fair();
        worst();
        drop();
        pairs();
        alone();
        with();
        reach();
        three();
        run();
        weeks();
        spread();
        mean();
        withHost();
        later();
        due.end();
    }

    private static void two() {
        due.promise(29);
        WhenCanAllSix x = Scene.persons(4, Scene.on(2), Scene.on(0, 3), Scene.on(3));
        due.row("two(i - 1)", i -> x.two(i - 1), 3, 2, 3);
        WhenCanAllSix six = Scene.six();
        due.row("two(i - 1): of several the first by rows", i -> six.two(i - 1), 5, 0, 4);
        WhenCanAllSix late = Scene.persons(14, Scene.on(13), Scene.on(12));
        due.row("two(i - 1): the last row", i -> late.two(i - 1), 2, 12, 13);
        WhenCanAllSix nobody = Scene.nobody(2);
        due.row("two(i - 1) of nobody", i -> nobody.two(i - 1), 0, 0, 1);
        due.refused(Due.BAD, SIX, "two(-2)", y -> y.two(-2));
        due.refused(Due.BAD, () -> Scene.nobody(1), "two(2)", y -> y.two(2));
        due.refused(Due.STUCK, () -> Scene.nobody(1), "two(-1)", y -> y.two(-1));
        due.refused(Due.STUCK, () -> Scene.nobody(1), "two(1)", y -> y.two(1));
    }

    private static void fixed() {
        due.promise(30);
        WhenCanAllSix x = Scene.persons(14, Scene.on(2, 9), Scene.on(9), Scene.on(3, 10));
        due.is("fixed", x.fixed(), 2);
        x.free(1, 3, true);
        due.is("fixed: of several the first", x.fixed(), 2);
        x.free(1, 10, true);
        due.is("fixed", x.fixed(), 3);
        due.is("fixed of six", Scene.six().fixed(), 4);
        due.is("fixed: the last", Scene.persons(7, Scene.on(6)).fixed(), 6);
        due.is("fixed of nobody", Scene.nobody(1).fixed(), 0);
    }

    private static void fair() {
        due.promise(31);
        WhenCanAllSix x = Scene.persons(3, Scene.on(0), Scene.on(1, 2));
        due.row("fair(1, i - 1)", i -> x.fair(1, i - 1), 1, 0);
        x.out(1, 1);
        due.row("fair(1, i - 1)", i -> x.fair(1, i - 1), 1, 1);
        due.row("fair(2, i - 1)", i -> x.fair(2, i - 1), 2, 0, 1);
        due.row("fair(3, i - 1)", i -> x.fair(3, i - 1), 2, 0, 1, 2);
        x.out(0, 0);
        x.out(1, 5);
        due.row("fair(2, i - 1)", i -> x.fair(2, i - 1), 5, 1, 2);
        due.is("nothing is changed", x.status(6), 5);
        WhenCanAllSix sum = Scene.persons(2, Scene.on(0, 1), Scene.on(), Scene.on(1));
        sum.out(0, 5);
        due.row("fair(1, i - 1): all OUT together", i -> sum.fair(1, i - 1), 5, 1);
        WhenCanAllSix full = Scene.persons(2, Scene.on(1), Scene.on(0));
        full.out(0, 99);
        due.row("fair(1, i - 1): 99 at most", i -> full.fair(1, i - 1), 99, 0);
        WhenCanAllSix late = Scene.persons(14, Scene.on(11, 12, 13));
        due.row("fair(3, i - 1): the last row", i -> late.fair(3, i - 1), 0, 11, 12, 13);
        due.refused(Due.BAD, SIX, "fair(0, -1)", y -> y.fair(0, -1));
        due.refused(Due.BAD, SIX, "fair(4, -1)", y -> y.fair(4, -1));
        due.refused(Due.BAD, SIX, "fair(2, 2)", y -> y.fair(2, 2));
        due.refused(Due.BAD, SIX, "fair(2, -2)", y -> y.fair(2, -2));
        due.refused(Due.BAD, Scene::fresh, "fair(1, 1)", y -> y.fair(1, 1));
        due.refused(Due.STUCK, Scene::fresh, "fair(1, 0)", y -> y.fair(1, 0));
        due.refused(Due.STUCK, () -> Scene.persons(2, Scene.on(0)), "fair(3, 0)", y -> y.fair(3, 0));
    }

    private static void worst() {
        due.promise(32);
        WhenCanAllSix x = Scene.six();
        due.is("worst of none left out", x.worst(), 0);
        x.out(3, 2);
        x.out(5, 2);
        due.is("worst: of several the first", x.worst(), 3);
        x.out(5, 3);
        due.is("worst", x.worst(), 5);
        x.out(1, 4);
        due.is("worst", x.worst(), 1);
        due.refused(Due.STUCK, Scene::fresh, "worst", y -> y.worst());
    }

    private static void drop() {
        due.promise(33);
        WhenCanAllSix x = Scene.six();
        due.row("drop", x::drop, 1, 1);
        WhenCanAllSix y = Scene.persons(4, Scene.on(0, 1), Scene.on(2), Scene.on(0, 1, 2));
        due.row("drop", y::drop, 1, 2);
        WhenCanAllSix none = Scene.persons(4, Scene.on(), Scene.on(), Scene.on());
        due.row("drop: of several the first", none::drop, 0, 0);
        WhenCanAllSix one = Scene.persons(4, Scene.on());
        due.row("drop the only one: all DAYS", one::drop, 0, 4);
        due.refused(Due.BAD, SIX, "drop(2)", z -> z.drop(2));
        due.refused(Due.BAD, Scene::fresh, "drop(-1)", z -> z.drop(-1));
        due.refused(Due.STUCK, Scene::fresh, "drop(0)", z -> z.drop(0));
        due.refused(Due.STUCK, Scene::fresh, "drop(1)", z -> z.drop(1));
    }

    private static void pairs() {
        due.promise(34);
        due.is("pairs: of several the first", Scene.six().pairs(), 2);
        due.is("pairs", Scene.persons(4, Scene.on(0), Scene.on(0, 1), Scene.on(0, 2), Scene.on(0, 1)).pairs(), 13);
        due.is("pairs with no DAY together", Scene.persons(4, Scene.on(0), Scene.on(1)).pairs(), 1);
        due.is("pairs of one", Scene.persons(4, Scene.on(0)).pairs(), -1);
        due.is("pairs of nobody", new WhenCanAllSix().pairs(), -1);
    }

    private static void alone() {
        due.promise(41);
        due.is("alone", Scene.six().alone(), 2);
        due.is("alone", Scene.persons(5, Scene.on(0, 1), Scene.on(2), Scene.on(1, 3), Scene.on()).alone(), 2 + 8);
        due.is("the only one", Scene.persons(5, Scene.on(0, 1)).alone(), 1);
        due.is("nobody", new WhenCanAllSix().alone(), 0);
    }

    private static void with() {
        due.promise(42);
        WhenCanAllSix x = Scene.six();
        due.row("with", x::with, 511, 274, 18, 18, 16, 16, 0, 0, 0);
        due.is("with(1) of nobody", new WhenCanAllSix().with(1), 0);
        due.refused(Due.BAD, SIX, "with(-1)", y -> y.with(-1));
        due.refused(Due.BAD, SIX, "with(9)", y -> y.with(9));
    }

    private static void reach() {
        due.promise(43);
        WhenCanAllSix x = Scene.six();
        due.row("reach", x::reach, 4, 0, 4, 4, 4, 4);
        WhenCanAllSix y = Scene.persons(5, Scene.on(0, 1), Scene.on(2), Scene.on(1, 2));
        due.row("reach", y::reach, 1, 1, 2);
        due.refused(Due.BAD, SIX, "reach(-1)", z -> z.reach(-1));
        due.refused(Due.BAD, SIX, "reach(6)", z -> z.reach(6));
    }

    private static void three() {
        due.promise(44);
        WhenCanAllSix x = Scene.persons(6, Scene.on(1), Scene.on(3), Scene.on(4), Scene.on(1, 4));
        due.row("three(i - 1)", i -> x.three(i - 1), 4, 1, 3, 4);
        WhenCanAllSix six = Scene.six();
        due.row("three(i - 1): of several the first by rows", i -> six.three(i - 1), 5, 0, 1, 4);
        WhenCanAllSix late = Scene.persons(14, Scene.on(13), Scene.on(12), Scene.on(11));
        due.row("three(i - 1): the last row", i -> late.three(i - 1), 3, 11, 12, 13);
        WhenCanAllSix nobody = Scene.nobody(3);
        due.row("three(i - 1) of nobody", i -> nobody.three(i - 1), 0, 0, 1, 2);
        due.refused(Due.BAD, SIX, "three(-2)", y -> y.three(-2));
        due.refused(Due.BAD, () -> Scene.nobody(2), "three(3)", y -> y.three(3));
        due.refused(Due.STUCK, () -> Scene.nobody(2), "three(-1)", y -> y.three(-1));
        due.refused(Due.STUCK, () -> Scene.nobody(2), "three(2)", y -> y.three(2));
    }

    private static void run() {
        due.promise(45);
        WhenCanAllSix x = Scene.persons(14, Scene.on(0, 2, 3, 4, 6, 7, 8, 9), Scene.on(0, 2, 3, 4, 7, 8));
        due.is("run of two at least", x.run(), 3);
        x.ask(1, 1);
        due.is("run of one at least", x.run(), 4);
        x.ask(1, 3);
        due.is("run of three at least", x.run(), 0);
        WhenCanAllSix all = Scene.persons(3, Scene.on(0, 1, 2), Scene.on(0, 1, 2));
        due.is("run to the end", all.run(), 3);
        due.is("run of nobody", new WhenCanAllSix().run(), 0);
    }

    private static void weeks() {
        due.promise(46);
        WhenCanAllSix x = Scene.persons(14, Scene.on(2, 9), Scene.on(9, 13), Scene.on(3));
        due.row("weeks", x::weeks, 0, 0, 3, 1, 0, 0, 1);
        due.is("weeks of few DAYS", Scene.nobody(1).weeks(6), 0);
        due.refused(Due.BAD, SIX, "weeks(-1)", y -> y.weeks(-1));
        due.refused(Due.BAD, SIX, "weeks(7)", y -> y.weeks(7));
    }

    private static void spread() {
        due.promise(47);
        WhenCanAllSix x = Scene.six();
        due.is("spread", x.spread(), 0);
        x.out(2, 9);
        due.is("spread", x.spread(), 9);
        for (int p = 0; p < 6; p++) {
            x.out(p, 90 + p);
        }
        due.is("spread", x.spread(), 5);
        due.is("spread of nobody", new WhenCanAllSix().spread(), 0);
    }

    private static void mean() {
        due.promise(48);
        due.is("mean of six", Scene.six().mean(), 1000);
        due.is("mean", Scene.persons(7, Scene.on(3)).mean(), 142);
        due.is("mean of nobody", new WhenCanAllSix().mean(), 0);
        due.is("mean on one DAY", Scene.persons(1, Scene.on(0), Scene.on(0)).mean(), 2000);
    }

    private static void withHost() {
        due.promise(49);
        WhenCanAllSix x = Scene.six();
        due.row("withHost", x::withHost, 1, -1, 1, 4, 1, 4);
        x.ask(0, 3);
        due.row("withHost", x::withHost, 4, -1, 4, 4, 4, 4);
        due.is("NONE isn't refused", x.status(12), 0);
        due.refused(Due.BAD, SIX, "withHost(-1)", y -> y.withHost(-1));
        due.refused(Due.BAD, SIX, "withHost(6)", y -> y.withHost(6));
        due.refused(Due.BAD, Scene::fresh, "withHost(0)", y -> y.withHost(0));
    }

    private static void later() {
        due.promise(51);
        WhenCanAllSix x = Scene.six();
        due.row("later", x::later, 1, 1, 4, 4, 4, -1, -1, -1, -1);
        x.ask(1, 1);
        due.row("later", x::later, 1, 1, 4, 4, 4, 8, 8, 8, 8);
        due.is("NONE isn't refused", x.status(12), 0);
        due.refused(Due.BAD, SIX, "later(-1)", y -> y.later(-1));
        due.refused(Due.BAD, SIX, "later(9)", y -> y.later(9));
    }
}
