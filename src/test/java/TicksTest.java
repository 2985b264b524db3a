import java.util.function.Supplier;

/** Promises 18 to 23 and 35 to 39: TICKS, COUNTS and the best DAY. */
public final class TicksTest {
    private static final Due due = new Due("TicksTest");
    private static final Supplier<WhenCanAllSix> SIX = Scene::six;

    public static void main(String[] args) {
        tick();
        tickOfEachKind();
        count();
        best();
        there();
        all();
        held();
        quiet();
        agree();
        votes();
        order();
        without();
        due.end();
    }

    private static void tick() {
        due.promise(18);
        WhenCanAllSix x = Scene.six();
        due.row("tick(0, i)", i -> x.tick(0, i), 0, 2, 0, 0, 2, 0, 0, 0, 2);
        due.row("tick(1, i)", i -> x.tick(1, i), 2, 2, 2, 2, 2, 2, 2, 2, 2);
        due.row("tick(2, i)", i -> x.tick(2, i), 0, 2, 0, 0, 2, 0, 0, 0, 0);
        due.row("tick(3, i)", i -> x.tick(3, i), 1, 1, 1, 1, 2, 1, 1, 1, 1);
        due.row("tick(4, i)", i -> x.tick(4, i), 0, 0, 0, 0, 2, 0, 0, 0, 0);
        due.row("tick(5, i)", i -> x.tick(5, i), 0, 0, 0, 0, 2, 0, 0, 0, 0);
        due.refused(Due.BAD, SIX, "tick(-1, 0)", y -> y.tick(-1, 0));
        due.refused(Due.BAD, SIX, "tick(6, 0)", y -> y.tick(6, 0));
        due.refused(Due.BAD, SIX, "tick(0, -1)", y -> y.tick(0, -1));
        due.refused(Due.BAD, SIX, "tick(0, 9)", y -> y.tick(0, 9));
        due.refused(Due.BAD, Scene::fresh, "tick(0, 0)", y -> y.tick(0, 0));
    }

    private static void tickOfEachKind() {
        WhenCanAllSix waiting = new WhenCanAllSix();
        waiting.days(4);
        Scene.free(waiting, waiting.person(2, 0, 0), 0, 2);
        Scene.free(waiting, waiting.person(2, 1, 0), 0, 1);
        Scene.free(waiting, waiting.person(2, 2, 0), 0, 1);
        Scene.free(waiting, waiting.person(2, 1, 0), 0, 1, 2, 3);
        Scene.free(waiting, waiting.person(2, 2, 0), 0, 2, 3);
        due.row("WAITING for nobody", i -> waiting.tick(0, i), 2, 0, 2, 0);
        due.row("WAITING for one", i -> waiting.tick(1, i), 2, 1, 0, 0);
        due.row("WAITING for two", i -> waiting.tick(2, i), 2, 1, 0, 0);
        due.row("WAITING for one, not for a 1", i -> waiting.tick(3, i), 2, 1, 2, 1);
        due.row("WAITING for two, not for one", i -> waiting.tick(4, i), 2, 0, 2, 1);

        WhenCanAllSix half = new WhenCanAllSix();
        half.days(2);
        half.person(3, 0, 0);
        half.person(3, 0, 0);
        Scene.free(half, half.person(2, 1, 0), 0, 1);
        half.free(1, 1, true);
        due.row("a 1 of a HALF is no 2", i -> half.tick(2, i), 1, 2);

        WhenCanAllSix choosy = new WhenCanAllSix();
        choosy.days(5);
        Scene.free(choosy, choosy.person(4, 0, 0), 0, 1, 3);
        Scene.free(choosy, choosy.person(0, 0, 0), 1, 3);
        Scene.free(choosy, choosy.person(4, 0, 0), 1, 3);
        Scene.free(choosy, choosy.person(4, 0, 0), 3);
        Scene.free(choosy, choosy.person(0, 0, 0), 3);
        Scene.free(choosy, choosy.person(4, 0, 0), 0, 1, 2, 3, 4);
        due.row("CHOOSY with none ahead", i -> choosy.tick(0, i), 2, 0, 0, 0, 0);
        due.row("CHOOSY, of several the first", i -> choosy.tick(2, i), 0, 0, 0, 0, 0);
        due.row("CHOOSY, one a DAY ahead", i -> choosy.tick(3, i), 0, 0, 0, 0, 0);
        due.row("CHOOSY, most on 3", i -> choosy.tick(5, i), 0, 0, 0, 2, 0);

        WhenCanAllSix hoping = new WhenCanAllSix();
        Scene.free(hoping, hoping.person(5, 10, 0), 9, 10);
        Scene.free(hoping, hoping.person(5, 11, 0), 9, 10);
        Scene.free(hoping, hoping.person(5, 0, 0), 9, 10);
        due.is("HOPING, FREE", hoping.tick(0, 10), 2);
        due.is("HOPING, FREE on another", hoping.tick(0, 9), 0);
        due.is("HOPING for no DAY", hoping.count(10), 2);
        due.is("HOPING, not FREE", hoping.tick(2, 0), 0);
    }

    private static void count() {
        due.promise(19);
        WhenCanAllSix x = Scene.six();
        due.row("count", x::count, 3, 7, 3, 3, 12, 3, 3, 3, 5);
        due.is("count of nobody", new WhenCanAllSix().count(10), 0);
        due.refused(Due.BAD, SIX, "count(-1)", y -> y.count(-1));
        due.refused(Due.BAD, SIX, "count(9)", y -> y.count(9));
    }

    private static void best() {
        due.promise(20);
        WhenCanAllSix x = Scene.six();
        due.is("best(0)", x.best(0), 4);
        due.is("best(1)", x.best(1), 4);
        x.free(0, 4, false);
        due.is("best(0)", x.best(0), 1);
        due.is("best(1)", x.best(1), 1);
        x.free(0, 1, false);
        due.is("best(0): of several 2s the HOST has but DAY 8's", x.best(1), 8);
        x.clear(0);
        due.is("best(1): the HOST has none", x.best(1), -1);
        due.is("status(12)", x.status(12) + x.status(15), 0);
        x.ask(0, 1);
        due.is("best(1) for another HOST", x.best(1), x.best(0));
        WhenCanAllSix none = new WhenCanAllSix();
        none.person(0, 0, 0);
        due.is("best(0) of no TICK but 0", none.best(0), 0);
        due.is("best(1)", none.best(1), -1);
        WhenCanAllSix several = Scene.persons(5, Scene.on(1, 3), Scene.on(1, 3), Scene.on(2));
        due.is("best(0) of several", several.best(0), 1);
        due.is("best(1) of several", several.best(1), 1);
        several.ask(0, 2);
        due.is("best(1)", several.best(1), 2);
        due.refused(Due.BAD, SIX, "best(2)", y -> y.best(2));
        due.refused(Due.BAD, Scene::fresh, "best(-1)", y -> y.best(-1));
        due.refused(Due.STUCK, Scene::fresh, "best(0)", y -> y.best(0));
        due.refused(Due.STUCK, Scene::fresh, "best(1)", y -> y.best(1));
    }

    private static void there() {
        due.promise(21);
        WhenCanAllSix x = Scene.six();
        due.row("there", x::there, 0, 21, 0, 0, 61, 0, 0, 0, 1);
        due.refused(Due.BAD, SIX, "there(-1)", y -> y.there(-1));
        due.refused(Due.BAD, SIX, "there(9)", y -> y.there(9));
    }

    private static void all() {
        due.promise(22);
        WhenCanAllSix x = Scene.six();
        due.is("all", x.all(), 0);
        Scene.free(x, 1, 0, 1, 4, 8);
        due.is("all", x.all(), 16);
        WhenCanAllSix nobody = new WhenCanAllSix();
        nobody.days(14);
        due.is("all of nobody", nobody.all(), 16383);
        due.is("all of three", Scene.persons(6, Scene.on(0, 1, 5), Scene.on(0, 5), Scene.on(0, 2, 5)).all(), 33);
    }

    private static void held() {
        due.promise(23);
        WhenCanAllSix x = Scene.six();
        due.row("held(i, 0)", i -> x.held(i, 0), 3, 9, 2, 1, 1, 1);
        due.row("held(i, 1)", i -> x.held(i, 1), 2, 8, 1, 0, 0, 0);
        WhenCanAllSix y = Scene.persons(5, Scene.on(0), Scene.on(1, 2), Scene.on(1));
        due.row("IDLE if BEST isn't ticked", i -> y.held(i, 1), 1, 1, 0);
        due.refused(Due.BAD, SIX, "held(-1, 0)", z -> z.held(-1, 0));
        due.refused(Due.BAD, SIX, "held(6, 0)", z -> z.held(6, 0));
        due.refused(Due.BAD, SIX, "held(0, 2)", z -> z.held(0, 2));
        due.refused(Due.BAD, SIX, "held(0, -1)", z -> z.held(0, -1));
    }

    private static void quiet() {
        due.promise(35);
        WhenCanAllSix x = Scene.six();
        due.is("quiet with a POLITE", x.quiet(), 0);
        due.is("quiet of nobody", new WhenCanAllSix().quiet(), 2047);
        WhenCanAllSix y = Scene.persons(5, Scene.on(0), Scene.on(0, 3));
        y.person(3, 0, 0);
        due.is("quiet: a 1 is quiet", y.quiet(), 2 + 4 + 16);
        due.is("quiet but for the first of them", Scene.persons(5, Scene.on(2), Scene.on()).quiet(), 1 + 2 + 8 + 16);
    }

    private static void agree() {
        due.promise(36);
        WhenCanAllSix x = Scene.six();
        due.is("agree(0, 5)", x.agree(0, 5), 16);
        due.is("agree(5, 0)", x.agree(5, 0), 16);
        due.is("agree(0, 1)", x.agree(0, 1), 274);
        due.is("agree(1, 3)", x.agree(1, 3), 16);
        due.refused(Due.BAD, SIX, "agree(2, 2)", y -> y.agree(2, 2));
        due.refused(Due.BAD, SIX, "agree(-1, 2)", y -> y.agree(-1, 2));
        due.refused(Due.BAD, SIX, "agree(2, 6)", y -> y.agree(2, 6));
        due.refused(Due.BAD, SIX, "agree(6, 2)", y -> y.agree(6, 2));
        due.refused(Due.BAD, SIX, "agree(2, -1)", y -> y.agree(2, -1));
    }

    private static void votes() {
        due.promise(37);
        WhenCanAllSix x = Scene.six();
        due.row("votes(0, i)", i -> x.votes(0, i), 4, 1, 1);
        due.row("votes(1, i)", i -> x.votes(1, i), 2, 1, 3);
        due.row("votes(4, i)", i -> x.votes(4, i), 0, 0, 6);
        due.is("votes of nobody", new WhenCanAllSix().votes(0, 0), 0);
        due.refused(Due.BAD, SIX, "votes(-1, 0)", y -> y.votes(-1, 0));
        due.refused(Due.BAD, SIX, "votes(9, 0)", y -> y.votes(9, 0));
        due.refused(Due.BAD, SIX, "votes(0, -1)", y -> y.votes(0, -1));
        due.refused(Due.BAD, SIX, "votes(0, 3)", y -> y.votes(0, 3));
    }

    private static void order() {
        due.promise(38);
        WhenCanAllSix x = Scene.six();
        due.row("order", x::order, 4, 1, 8, 0, 2, 3, 5, 6, 7);
        WhenCanAllSix nobody = new WhenCanAllSix();
        due.row("order of nobody", nobody::order, 0, 1, 2, 3, 4, 5, 6, 7, 8, 9, 10);
        due.refused(Due.BAD, SIX, "order(-1)", y -> y.order(-1));
        due.refused(Due.BAD, SIX, "order(9)", y -> y.order(9));
    }

    private static void without() {
        due.promise(39);
        WhenCanAllSix x = Scene.persons(5, Scene.on(3), Scene.on(1));
        due.row("without", x::without, 1, 3);
        due.is("the only one", Scene.persons(5, Scene.on(3)).without(0), 0);
        WhenCanAllSix waits = new WhenCanAllSix();
        waits.days(4);
        waits.person(1, 0, 0);
        waits.free(waits.person(2, 1, 0), 2, true);
        waits.free(waits.person(3, 0, 0), 0, true);
        due.is("all others as they tick", waits.without(0), 2);
        due.is("best is as it was", waits.best(0), 2);
        due.refused(Due.BAD, SIX, "without(-1)", y -> y.without(-1));
        due.refused(Due.BAD, SIX, "without(6)", y -> y.without(6));
        due.refused(Due.BAD, Scene::fresh, "without(0)", y -> y.without(0));
    }
}
