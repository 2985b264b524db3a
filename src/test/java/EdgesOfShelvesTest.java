import java.util.function.Supplier;

/** Each sentence on a new object, the SHELVES and the REFUSALS (promises 1 to 8), held at its edges. */
public final class EdgesOfShelvesTest {
    private static final Due due = new Due("EdgesOfShelvesTest");
    private static final Supplier<WhenCanAllSix> RICH = Scene::rich;
    private static final long MIN = Long.MIN_VALUE;
    private static final long MAX = Long.MAX_VALUE;

    public static void main(String[] args) {
        lastOf512Calls();
        none();
        newObject();
        whatShelvesHold();
        row();
        rowLimits();
        sortsAndElements();
        lowestBits();
        booleansAreNumbers();
        set();
        setRefused();
        copy();
        copyRefused();
        element();
        holds();
        show();
        showLimits();
        kindsUnderKinds();
        says();
        saysRefused();
        refusals();
        due.end();
    }

    private static void lastOf512Calls() {
        due.sentence(1, "An object is used for at most 512 calls after it has been made; "
            + "what later calls answer is free.");
        WhenCanAllSix x = new WhenCanAllSix();
        for (int call = 1; call <= 511; call++) {
            due.is("days, call " + call, x.days(1 + call % 14), call == 1 ? 11 : 1 + (call - 1) % 14);
        }
        due.is("status(1), call 512", x.status(1), 1 + 511 % 14);
        WhenCanAllSix y = new WhenCanAllSix();
        for (int call = 1; call <= 511; call++) {
            due.is("worst, call " + call, y.worst(), Due.STUCK);
        }
        due.is("status(15), call 512", y.status(15), 511);
        WhenCanAllSix z = Scene.eight();
        z.ask(1, 1);
        int dinners = 0;
        for (int call = 11; call <= 511; call++) {
            dinners += z.years(50);
        }
        due.is("status(5), call 512", z.status(5), dinners);
    }

    private static void none() {
        due.sentence(1, "public static final int NONE = -1;");
        due.is("NONE", WhenCanAllSix.NONE, -1);
    }

    private static void newObject() {
        due.sentence(1, "11 DAYS, nobody; SHELVES hold NOTHING; THE TAPE is empty.");
        WhenCanAllSix x = new WhenCanAllSix();
        due.row("status", x::status, 0, 11, 0, 2, 1, 0, 0, 0, 1, 0);
        due.row("status 12 +", i -> x.status(12 + i), 0, 0, 0, 0, 0);
        due.row("holds", x::holds, -1, -1, -1, -1, -1, -1, -1, -1);
        due.row("there 10 +", i -> x.there(10 + i), 0, Due.BAD);
        due.is("personOf(0, 0)", x.personOf(0, 0), Due.BAD);
        due.is("all", x.all(), 2047);
        due.is("wipe", x.wipe(), 0);
        due.is("back", x.back(), Due.STUCK);
        due.is("first of THE TAPE", new WhenCanAllSix().feed('d'), 1);
        due.is("first of the PEOPLE", new WhenCanAllSix().person(0, 0, 0), 0);
        WhenCanAllSix y = Scene.rich();
        due.is("another object is new, too", new WhenCanAllSix().status(0) + y.status(0), 6);
    }

    private static void whatShelvesHold() {
        due.sentence(6, "SHELVES 0 to 7 hold NOTHING (at first), a ROW, or one of the PEOPLE.");
        WhenCanAllSix x = Scene.six();
        for (int s = 0; s <= 7; s++) {
            due.is("holds(" + s + ") at first", x.holds(s), -1);
            x.row(s, s % 5, s);
            due.is("holds(" + s + ")", x.holds(s), s % 5);
            x.show(s, s % 6);
            due.is("holds(" + s + ")", x.holds(s), 10 + s % 6);
            x.show(s, -1);
            due.is("holds(" + s + ")", x.holds(s), -1);
        }
        due.is("row(8, 0, 0)", x.row(8, 0, 0), Due.BAD);
        due.is("row(-1, 0, 0)", x.row(-1, 0, 0), Due.BAD);
    }

    private static void row() {
        due.sentence(2, "SHELF s holds a new ROW: 1.");
        WhenCanAllSix x = Scene.rich();
        due.is("row(3, 2, 2) where NOTHING was", x.row(3, 2, 2), 1);
        due.is("row(2, 3, 2) where one of the PEOPLE was", x.row(2, 3, 2), 1);
        due.is("row(0, 0, 10) where a ROW was", x.row(0, 0, 10), 1);
        due.row("holds", x::holds, 0, 1, 3, 2, -1, -1, -1, -1);
        due.row("element(0, i) of the new ROW", i -> x.element(0, i), 0, 0, 0, 0, 0, 0, 0, 0, 0, 0);
        due.row("element(1, i) of the other", i -> x.element(1, i), 3, 1, 4);
        due.is("row(1, 1, 2), a shorter one", x.row(1, 1, 2), 1);
        due.is("set(1, 2, 5)", x.set(1, 2, 5), Due.BAD);
        due.is("row(1, 1, 3), a longer one", x.row(1, 1, 3), 1);
        due.row("element(1, i) of the new ROW", i -> x.element(1, i), 0, 0, 0);
        due.is("the person in the SHELF is still one of the PEOPLE", x.personOf(3, 0), 3);
    }

    private static void rowLimits() {
        due.sentence(2, "BAD.");
        due.limits(0, 7, RICH, "row(v, 0, 1)", (x, v) -> x.row(v, 0, 1));
        due.limits(0, 4, RICH, "row(0, v, 1)", (x, v) -> x.row(0, v, 1));
        due.limits(0, 40, RICH, "row(0, 0, v)", (x, v) -> x.row(0, 0, v));
    }

    private static void sortsAndElements() {
        due.sentence(2, "A ROW has a SORT (0 bytes, 1 shorts, 2 ints, 3 longs, 4 booleans) "
            + "and 0 to 40 elements (0, or not so, at first);");
        for (int sort = 0; sort <= 4; sort++) {
            WhenCanAllSix x = new WhenCanAllSix();
            due.is("row(5, " + sort + ", 40)", x.row(5, sort, 40), 1);
            for (int i = 0; i < 40; i++) {
                due.is("element(5, " + i + ") at first", x.element(5, i), 0);
            }
            due.is("set(5, 39, 1)", x.set(5, 39, 1), 1);
            due.is("element(5, 39)", x.element(5, 39), 1);
            due.is("set(5, 40, 1)", x.set(5, 40, 1), Due.BAD);
            due.is("row(5, " + sort + ", 0)", x.row(5, sort, 0), 1);
            due.is("holds(5), a ROW of 0 elements", x.holds(5), sort);
            due.is("set(5, 0, 1)", x.set(5, 0, 1), Due.BAD);
            due.is("row(5, " + sort + ", 1)", x.row(5, sort, 1), 1);
            due.row("set(5, i, 1)", i -> x.set(5, i, 1), 1, Due.BAD);
        }
    }

    /** Put in, the first of each pair is the second. */
    private static void kept(int sort, long... pairs) {
        WhenCanAllSix x = new WhenCanAllSix();
        x.row(0, sort, 1);
        for (int i = 0; i < pairs.length; i += 2) {
            due.is("set(0, 0, " + pairs[i] + ") of SORT " + sort, x.set(0, 0, pairs[i]), 1);
            due.is("element(0, 0) then", x.element(0, 0), pairs[i + 1]);
        }
    }

    private static void lowestBits() {
        due.sentence(3, "what is put in keeps its lowest bits (of booleans: whether it is not 0);");
        kept(0, 127, 127, 128, -128, 255, -1, 256, 0, 257, 1, -128, -128, -129, 127, -1, -1, MAX, -1, MIN, 0);
        kept(1, 32767, 32767, 32768, -32768, 65535, -1, 65536, 0, -32768, -32768, -32769, 32767, MAX, -1, MIN, 0);
        kept(2, 2147483647, 2147483647, 2147483648L, -2147483648, 4294967295L, -1, 4294967296L, 0,
            -2147483648, -2147483648, -2147483649L, 2147483647, MAX, -1, MIN, 0);
        kept(3, MAX, MAX, MIN, MIN, -1, -1, 0, 0, 4294967296L, 4294967296L);
        kept(4, 1, 1, 0, 0, -1, 1, 0, 0, 2, 1, 256, 1, 65536, 1, 4294967296L, 1, MAX, 1, 0, 0, MIN, 1);
    }

    private static void booleansAreNumbers() {
        due.sentence(5, "told they are numbers (1, 0).");
        WhenCanAllSix x = new WhenCanAllSix();
        Scene.row(x, 0, 4, 7, 0, -7);
        due.row("element(0, i)", i -> x.element(0, i), 1, 0, 1);
        x.row(1, 4, 3);
        x.copy(0, 1, 0, 0, 3);
        due.row("element(1, i)", i -> x.element(1, i), 1, 0, 1);
    }

    private static void set() {
        due.sentence(3, "Element i of the ROW in SHELF s becomes v: 1.");
        WhenCanAllSix x = Scene.rich();
        due.is("set(1, 0, 20)", x.set(1, 0, 20), 1);
        due.is("set(1, 2, 22)", x.set(1, 2, 22), 1);
        due.row("element(1, i)", i -> x.element(1, i), 20, 1, 22);
        due.is("set(1, 1, 0)", x.set(1, 1, 0), 1);
        due.row("element(1, i)", i -> x.element(1, i), 20, 0, 22);
        due.row("element(0, i) of the other", i -> x.element(0, i), 1, 4, 5, 6, 7, 8, 9, 10, 11, 12);
    }

    private static WhenCanAllSix rowsAll() {
        WhenCanAllSix x = new WhenCanAllSix();
        for (int s = 0; s <= 7; s++) {
            Scene.row(x, s, 2, s, s + 1, s + 2);
        }
        return x;
    }

    private static void setRefused() {
        due.sentence(3, "BAD SHELF; OTHER; NOTHING; BAD i.");
        due.limits(0, 7, EdgesOfShelvesTest::rowsAll, "set(v, 2, 9)", (x, v) -> x.set(v, 2, 9));
        due.limits(0, 2, EdgesOfShelvesTest::rowsAll, "set(0, v, 9)", (x, v) -> x.set(0, v, 9));
        due.refused(Due.OTHER, RICH, "set(2, 0, 9)", x -> x.set(2, 0, 9));
        due.refused(Due.OTHER, RICH, "set(2, -1, 9), OTHER ahead of BAD i", x -> x.set(2, -1, 9));
        due.refused(Due.OTHER, RICH, "set(2, 40, 9), OTHER ahead of BAD i", x -> x.set(2, 40, 9));
        due.refused(Due.NOTHING, RICH, "set(3, 0, 9)", x -> x.set(3, 0, 9));
        due.refused(Due.NOTHING, RICH, "set(3, -1, 9), NOTHING ahead of BAD i", x -> x.set(3, -1, 9));
        due.refused(Due.NOTHING, RICH, "set(3, 40, 9), NOTHING ahead of BAD i", x -> x.set(3, 40, 9));
    }

    private static void copy() {
        due.sentence(4, "n elements of the ROW in SHELF p from place i on come to places j on of that in q "
            + "(as they were): n.");
        WhenCanAllSix x = rowsAll();
        due.is("copy(0, 1, 0, 0, 3), all", x.copy(0, 1, 0, 0, 3), 3);
        due.row("element(1, i)", i -> x.element(1, i), 0, 1, 2);
        due.is("copy(7, 2, 2, 0, 1), the last to the first", x.copy(7, 2, 2, 0, 1), 1);
        due.row("element(2, i)", i -> x.element(2, i), 9, 3, 4);
        due.is("copy(7, 2, 0, 2, 1), the first to the last", x.copy(7, 2, 0, 2, 1), 1);
        due.row("element(2, i)", i -> x.element(2, i), 9, 3, 7);
        due.is("copy(7, 2, 1, 1, 0), none", x.copy(7, 2, 1, 1, 0), 0);
        due.row("element(2, i)", i -> x.element(2, i), 9, 3, 7);
        due.row("element(7, i)", i -> x.element(7, i), 7, 8, 9);
        due.is("copy(5, 5, 0, 1, 2), to later places of its own", x.copy(5, 5, 0, 1, 2), 2);
        due.row("element(5, i)", i -> x.element(5, i), 5, 5, 6);
        due.is("copy(6, 6, 1, 0, 2), to earlier places of its own", x.copy(6, 6, 1, 0, 2), 2);
        due.row("element(6, i)", i -> x.element(6, i), 7, 8, 8);
        due.is("copy(4, 4, 0, 0, 3), to its own places", x.copy(4, 4, 0, 0, 3), 3);
        due.row("element(4, i)", i -> x.element(4, i), 4, 5, 6);

        WhenCanAllSix whole = new WhenCanAllSix();
        whole.row(0, 3, 40);
        whole.row(1, 3, 40);
        for (int i = 0; i < 40; i++) {
            whole.set(0, i, MAX - i);
        }
        due.is("copy(0, 1, 0, 0, 40), as many as there can be", whole.copy(0, 1, 0, 0, 40), 40);
        due.is("copy(0, 0, 0, 1, 39)", whole.copy(0, 0, 0, 1, 39), 39);
        for (int i = 0; i < 40; i++) {
            due.is("element(1, " + i + ")", whole.element(1, i), MAX - i);
            due.is("element(0, " + i + ")", whole.element(0, i), MAX - Math.max(0, i - 1));
        }
        WhenCanAllSix empty = new WhenCanAllSix();
        empty.row(0, 0, 0);
        due.is("copy(0, 0, 0, 0, 1) of a ROW of 0 elements", empty.copy(0, 0, 0, 0, 1), Due.BAD);
    }

    private static void copyRefused() {
        due.sentence(4, "BAD SHELVES; OTHER (also ROWS of two SORTS, if both hold something); NOTHING; BAD the others.");
        Supplier<WhenCanAllSix> rows = EdgesOfShelvesTest::rowsAll;
        due.limits(0, 7, rows, "copy(v, 3, 0, 0, 1)", (x, v) -> x.copy(v, 3, 0, 0, 1));
        due.limits(0, 7, rows, "copy(3, v, 0, 0, 1)", (x, v) -> x.copy(3, v, 0, 0, 1));
        due.limits(0, 2, rows, "copy(3, 4, v, 0, 1)", (x, v) -> x.copy(3, 4, v, 0, 1));
        due.limits(0, 2, rows, "copy(3, 4, 0, v, 1)", (x, v) -> x.copy(3, 4, 0, v, 1));
        due.limits(0, 3, rows, "copy(3, 4, 0, 0, v)", (x, v) -> x.copy(3, 4, 0, 0, v));
        due.limits(0, 2, rows, "copy(3, 4, 1, 0, v)", (x, v) -> x.copy(3, 4, 1, 0, v));
        due.limits(0, 2, rows, "copy(3, 4, 0, 1, v)", (x, v) -> x.copy(3, 4, 0, 1, v));
        due.limits(0, 1, rows, "copy(3, 4, v, 0, 2)", (x, v) -> x.copy(3, 4, v, 0, 2));
        due.limits(0, 1, rows, "copy(3, 4, 0, v, 2)", (x, v) -> x.copy(3, 4, 0, v, 2));
        due.refused(Due.BAD, RICH, "copy(-1, 2, 0, 0, 1), BAD ahead of OTHER", x -> x.copy(-1, 2, 0, 0, 1));
        due.refused(Due.BAD, RICH, "copy(2, 8, 0, 0, 1), BAD ahead of OTHER", x -> x.copy(2, 8, 0, 0, 1));
        due.refused(Due.BAD, RICH, "copy(8, 3, 0, 0, 1), BAD ahead of NOTHING", x -> x.copy(8, 3, 0, 0, 1));
        due.refused(Due.BAD, RICH, "copy(3, -1, 0, 0, 1), BAD ahead of NOTHING", x -> x.copy(3, -1, 0, 0, 1));
        due.refused(Due.OTHER, RICH, "copy(2, 2, 0, 0, 1)", x -> x.copy(2, 2, 0, 0, 1));
        due.refused(Due.OTHER, RICH, "copy(2, 0, 0, 0, 1)", x -> x.copy(2, 0, 0, 0, 1));
        due.refused(Due.OTHER, RICH, "copy(0, 2, 0, 0, 1)", x -> x.copy(0, 2, 0, 0, 1));
        due.refused(Due.OTHER, RICH, "copy(2, 3, 0, 0, 1), OTHER ahead of NOTHING", x -> x.copy(2, 3, 0, 0, 1));
        due.refused(Due.OTHER, RICH, "copy(3, 2, 0, 0, 1), OTHER ahead of NOTHING", x -> x.copy(3, 2, 0, 0, 1));
        due.refused(Due.OTHER, RICH, "copy(0, 2, 99, 0, 1), OTHER ahead of BAD i", x -> x.copy(0, 2, 99, 0, 1));
        due.refused(Due.OTHER, RICH, "copy(0, 1, 0, 0, 1), two SORTS", x -> x.copy(0, 1, 0, 0, 1));
        due.refused(Due.OTHER, RICH, "copy(1, 0, 0, 0, 0), two SORTS and none", x -> x.copy(1, 0, 0, 0, 0));
        due.refused(Due.OTHER, RICH, "copy(1, 0, -1, 0, 1), two SORTS ahead of BAD i", x -> x.copy(1, 0, -1, 0, 1));
        due.refused(Due.OTHER, RICH, "copy(1, 0, 0, 0, 41), two SORTS ahead of BAD n", x -> x.copy(1, 0, 0, 0, 41));
        due.refused(Due.NOTHING, RICH, "copy(3, 4, 0, 0, 0)", x -> x.copy(3, 4, 0, 0, 0));
        due.refused(Due.NOTHING, RICH, "copy(0, 3, 0, 0, 1)", x -> x.copy(0, 3, 0, 0, 1));
        due.refused(Due.NOTHING, RICH, "copy(3, 1, 0, 0, 1)", x -> x.copy(3, 1, 0, 0, 1));
        due.refused(Due.NOTHING, RICH, "copy(0, 3, -1, 0, 1), NOTHING ahead of BAD i", x -> x.copy(0, 3, -1, 0, 1));
        due.refused(Due.NOTHING, RICH, "copy(3, 0, 0, 40, 1), NOTHING ahead of BAD j", x -> x.copy(3, 0, 0, 40, 1));
        due.refused(Due.NOTHING, RICH, "copy(3, 3, 0, 0, -1), NOTHING ahead of BAD n", x -> x.copy(3, 3, 0, 0, -1));
    }

    private static void element() {
        due.sentence(5, "Element i of the ROW; 0: none, no ROW (nothing is refused).");
        WhenCanAllSix x = Scene.rich();
        due.is("element(0, 0), the first", x.element(0, 0), 1);
        due.is("element(0, 9), the last", x.element(0, 9), 12);
        due.is("element(0, 10)", x.element(0, 10), 0);
        due.is("element(0, -1)", x.element(0, -1), 0);
        due.is("element(0, MAX)", x.element(0, Integer.MAX_VALUE), 0);
        due.is("element(0, MIN)", x.element(0, Integer.MIN_VALUE), 0);
        due.is("element(2, 0), of one of the PEOPLE", x.element(2, 0), 0);
        due.is("element(3, 0), of NOTHING", x.element(3, 0), 0);
        due.is("element(-1, 0), no SHELF", x.element(-1, 0), 0);
        due.is("element(8, 0), no SHELF", x.element(8, 0), 0);
        due.is("element(MAX, 0), no SHELF", x.element(Integer.MAX_VALUE, 0), 0);
        due.is("element(MIN, 0), no SHELF", x.element(Integer.MIN_VALUE, 0), 0);
        x.show(0, 1);
        due.is("element(0, 1), of a ROW that was", x.element(0, 1), 0);
        x.show(1, -1);
        due.is("element(1, 1), of a ROW that was", x.element(1, 1), 0);
        x.row(6, 3, 40);
        x.set(6, 39, 5);
        due.row("element(6, 39 +) of a ROW of 40 elements", i -> x.element(6, 39 + i), 5, 0, 0);
        due.is("element(6, -1) of it", x.element(6, -1), 0);
        x.row(7, 0, 1);
        x.set(7, 0, 5);
        due.row("element(7, i), of a ROW of 1 element", i -> x.element(7, i), 5, 0);
        due.row("status 12 +", i -> x.status(12 + i), 0, 0, 0, 0, 0);
    }

    private static void holds() {
        due.sentence(6, "What SHELF s holds: NONE NOTHING, no SHELF; 0 to 4 a ROW by its SORT; "
            + "10 and the number of one of the PEOPLE.");
        WhenCanAllSix x = Scene.eight();
        for (int p = 0; p <= 7; p++) {
            x.show(p, p);
        }
        due.row("holds", x::holds, 10, 11, 12, 13, 14, 15, 16, 17, -1);
        for (int sort = 0; sort <= 4; sort++) {
            x.row(7 - sort, sort, 40 * (sort % 2));
        }
        due.row("holds", x::holds, 10, 11, 12, 4, 3, 2, 1, 0, -1);
        x.show(0, -1);
        due.is("holds(0)", x.holds(0), -1);
        due.is("holds(-1)", x.holds(-1), -1);
        due.is("holds(MAX)", x.holds(Integer.MAX_VALUE), -1);
        due.is("holds(MIN)", x.holds(Integer.MIN_VALUE), -1);
        due.row("status 12 +", i -> x.status(12 + i), 0, 0, 0, 0, 0);
    }

    private static void show() {
        due.sentence(7, "SHELF s holds one of the PEOPLE, or NOTHING (person NONE): 1.");
        WhenCanAllSix x = Scene.rich();
        due.is("show(3, 0) where NOTHING was", x.show(3, 0), 1);
        due.is("show(2, 5) where another was", x.show(2, 5), 1);
        due.is("show(0, 5) where a ROW was, the same in two SHELVES", x.show(0, 5), 1);
        due.row("holds", x::holds, 15, 1, 15, 10, -1, -1, -1, -1);
        due.is("show(0, NONE) where one was", x.show(0, WhenCanAllSix.NONE), 1);
        due.is("show(1, NONE) where a ROW was", x.show(1, WhenCanAllSix.NONE), 1);
        due.is("show(7, NONE) where NOTHING was", x.show(7, WhenCanAllSix.NONE), 1);
        due.row("holds", x::holds, -1, -1, 15, 10, -1, -1, -1, -1);
        due.is("show(7, NONE) of nobody", new WhenCanAllSix().show(7, WhenCanAllSix.NONE), 1);
    }

    private static void showLimits() {
        due.sentence(7, "BAD.");
        due.limits(0, 7, RICH, "show(v, 0)", (x, v) -> x.show(v, 0));
        due.limits(0, 7, RICH, "show(v, NONE)", (x, v) -> x.show(v, -1));
        due.limits(-1, 5, RICH, "show(0, v)", (x, v) -> x.show(0, v));
        due.limits(-1, 7, Scene::eight, "show(0, v)", (x, v) -> x.show(0, v));
        due.limits(-1, -1, Scene::fresh, "show(0, v) of nobody", (x, v) -> x.show(0, v));
    }

    /** One by himself of a KIND, a 13, LIKELY 12, two DAYS FREE, shown in SHELF 7. */
    private static WhenCanAllSix shown(int kind) {
        WhenCanAllSix x = new WhenCanAllSix();
        Scene.free(x, x.person(kind, 13, 12), 0, 10);
        x.show(7, 0);
        return x;
    }

    private static void kindsUnderKinds() {
        due.sentence(8, "each of a KIND: 0 PERSON; 1 POLITE, 2 WAITING, 5 HOPING, each under PERSON; "
            + "3 HALF, under POLITE; 4 CHOOSY, under WAITING;");
        int no = Due.OTHER;
        due.row("PERSON says as", k -> shown(0).says(7, k), 2, no, no, no, no, no);
        due.row("POLITE says as", k -> shown(1).says(7, k), 2, 12, no, no, no, no);
        due.row("WAITING says as", k -> shown(2).says(7, k), 2, no, 13, no, no, no);
        due.row("HALF says as", k -> shown(3).says(7, k), 2, 12, no, 12, no, no);
        due.row("CHOOSY says as", k -> shown(4).says(7, k), 2, no, 13, no, 13, no);
        due.row("HOPING says as", k -> shown(5).says(7, k), 2, no, no, no, no, 13);
    }

    private static void says() {
        due.sentence(8, "What the one in SHELF s, taken for one of a KIND, says: PERSON how many DAYS he has FREE; "
            + "POLITE, HALF his LIKELY; WAITING, CHOOSY, HOPING his a.");
        WhenCanAllSix none = new WhenCanAllSix();
        none.person(3, 0, 0);
        none.person(4, 0, 0);
        none.show(0, 0);
        none.show(1, 1);
        due.is("PERSON, none FREE", none.says(0, 0), 0);
        due.is("POLITE, LIKELY 0", none.says(0, 1), 0);
        due.is("HALF, LIKELY 0", none.says(0, 3), 0);
        due.is("WAITING, a 0", none.says(1, 2), 0);
        due.is("CHOOSY, a 0", none.says(1, 4), 0);
        WhenCanAllSix full = Scene.allFree(8, 14);
        full.show(7, 7);
        due.is("PERSON, all 14 FREE", full.says(7, 0), 14);
        full.free(7, 13, false);
        due.is("PERSON, as he is now", full.says(7, 0), 13);
        full.days(1);
        due.is("PERSON, one DAY", full.says(7, 0), 1);
    }

    private static void saysRefused() {
        due.sentence(8, "BAD SHELF, KIND; OTHER (also if he is of no such KIND nor of one under it); NOTHING.");
        Supplier<WhenCanAllSix> all = () -> {
            WhenCanAllSix x = Scene.six();
            for (int s = 0; s <= 7; s++) {
                x.show(s, 5);
            }
            return x;
        };
        due.limits(0, 7, all, "says(v, 0)", (x, v) -> x.says(v, 0));
        for (int kind : new int[] {-1, 6, Integer.MIN_VALUE, Integer.MAX_VALUE}) {
            due.refused(Due.BAD, all, "says(0, " + kind + ")", x -> x.says(0, kind));
            due.refused(Due.BAD, RICH, "says of a ROW, BAD KIND ahead of OTHER", x -> x.says(0, kind));
            due.refused(Due.BAD, RICH, "says of NOTHING, BAD KIND ahead of NOTHING", x -> x.says(3, kind));
        }
        due.refused(Due.OTHER, RICH, "says(0, 0) of a ROW", x -> x.says(0, 0));
        due.refused(Due.OTHER, RICH, "says(1, 5) of a ROW", x -> x.says(1, 5));
        due.refused(Due.OTHER, RICH, "says(2, 5) of a HALF", x -> x.says(2, 5));
        due.refused(Due.OTHER, () -> shown(1), "says(7, 3): HALF is under POLITE", x -> x.says(7, 3));
        due.refused(Due.OTHER, () -> shown(2), "says(7, 4): CHOOSY is under WAITING", x -> x.says(7, 4));
        due.refused(Due.NOTHING, RICH, "says(3, 0)", x -> x.says(3, 0));
        due.refused(Due.NOTHING, RICH, "says(7, 5)", x -> x.says(7, 5));
    }

    private static void refusals() {
        due.sentence(65, "REFUSALS (the call answers the number; nothing changes but how many there were; "
            + "the first that fits as each line has them):");
        WhenCanAllSix x = Scene.rich();
        due.is("days(0)", x.days(0), -2);
        due.is("days(15)", x.days(15), -2);
        due.row("status 12 +", i -> x.status(12 + i), 2, 0, 0, 0, 0);
        due.isTrue("all else is as it was", Look.at(x).equals(Look.at(Scene.rich())));
        due.sentence(65, "-2 BAD a number that may not be, nothing of that number.");
        due.refused(-2, RICH, "a number that may not be: ask(1, 9)", y -> y.ask(1, 9));
        due.refused(-2, RICH, "nothing of that number: clear(6)", y -> y.clear(6));
        due.sentence(65, "-3 OTHER: a SHELF that holds another thing than is wanted.");
        due.refused(-3, RICH, "a person, a ROW is wanted: set(2, 0, 0)", y -> y.set(2, 0, 0));
        due.refused(-3, RICH, "a ROW, a person is wanted: says(0, 0)", y -> y.says(0, 0));
        due.sentence(65, "-4 NOTHING: a SHELF that holds NOTHING.");
        due.refused(-4, RICH, "judge(7, 0)", y -> y.judge(7, 0));
        due.refused(-4, RICH, "says(7, 0)", y -> y.says(7, 0));
        due.sentence(65, "-5 STUCK: it can't be as things stand.");
        due.refused(-5, RICH, "dine(0)", y -> y.dine(0));
        due.refused(-5, Scene::fresh, "worst", WhenCanAllSix::worst);
        due.sentence(65, "-6 FULL.");
        due.refused(-6, Scene::eight, "person(0, 0, 0)", y -> y.person(0, 0, 0));
    }
}
