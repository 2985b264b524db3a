import java.util.function.Supplier;

/** Promises 1 to 8: a new object and the SHELVES. */
public final class ShelvesTest {
    private static final Due due = new Due("ShelvesTest");
    private static final Supplier<WhenCanAllSix> WITH = Scene::sixWithShelves;

    public static void main(String[] args) {
        newObject();
        row();
        set();
        copy();
        element();
        holds();
        show();
        says();
        due.end();
    }

    private static void newObject() {
        due.promise(1);
        WhenCanAllSix x = new WhenCanAllSix();
        due.row("status", x::status, 0, 11, 0, 2, 1, 0, 0, 0, 1, 0);
        due.row("status 12 +", i -> x.status(12 + i), 0, 0, 0, 0, 0);
        due.row("holds", x::holds, -1, -1, -1, -1, -1, -1, -1, -1);
        due.is("wipe", x.wipe(), 0);
        due.is("calendar of the empty TAPE", x.calendar(), -20);
        due.is("all", x.all(), 2047);
        due.is("NONE", WhenCanAllSix.NONE, -1);
    }

    private static void row() {
        due.promise(2);
        WhenCanAllSix x = Scene.sixWithShelves();
        due.is("row(7, 4, 40)", x.row(7, 4, 40), 1);
        due.is("set(7, 39, 1)", x.set(7, 39, 1), 1);
        due.is("row(7, 3, 0)", x.row(7, 3, 0), 1);
        due.is("set(7, 0, 1)", x.set(7, 0, 1), Due.BAD);
        due.is("row(2, 0, 1) over a person", x.row(2, 0, 1), 1);
        due.is("holds(2)", x.holds(2), 0);
        due.is("element(0, 0)", x.element(0, 0), 1);
        due.is("row(0, 0, 10) anew", x.row(0, 0, 10), 1);
        due.row("element(0, i)", i -> x.element(0, i), 0, 0, 0, 0, 0, 0, 0, 0, 0, 0);
        due.refused(Due.BAD, WITH, "row(-1, 0, 1)", y -> y.row(-1, 0, 1));
        due.refused(Due.BAD, WITH, "row(8, 0, 1)", y -> y.row(8, 0, 1));
        due.refused(Due.BAD, WITH, "row(0, -1, 1)", y -> y.row(0, -1, 1));
        due.refused(Due.BAD, WITH, "row(0, 5, 1)", y -> y.row(0, 5, 1));
        due.refused(Due.BAD, WITH, "row(0, 0, -1)", y -> y.row(0, 0, -1));
        due.refused(Due.BAD, WITH, "row(0, 0, 41)", y -> y.row(0, 0, 41));
    }

    private static void set() {
        due.promise(3);
        long v = 0x1234_5678_9ABC_DEF0L;
        long[] want = {(byte) v, (short) v, (int) v, v, 1};
        for (int sort = 0; sort <= 4; sort++) {
            WhenCanAllSix x = new WhenCanAllSix();
            x.row(3, sort, 3);
            due.is("set(3, 2, v) of SORT " + sort, x.set(3, 2, v), 1);
            due.is("element(3, 2)", x.element(3, 2), want[sort]);
            due.is("element(3, 1)", x.element(3, 1), 0);
            due.is("set(3, 2, -1)", x.set(3, 2, -1), 1);
            due.is("element(3, 2)", x.element(3, 2), sort == 4 ? 1 : -1);
            x.set(3, 2, 0);
            due.is("element(3, 2)", x.element(3, 2), 0);
            x.set(3, 2, 256);
            due.is("element(3, 2)", x.element(3, 2), sort == 0 ? 0 : sort == 4 ? 1 : 256);
        }
        due.refused(Due.BAD, WITH, "set(-1, 0, 1)", y -> y.set(-1, 0, 1));
        due.refused(Due.BAD, WITH, "set(8, 0, 1)", y -> y.set(8, 0, 1));
        due.refused(Due.OTHER, WITH, "set(2, -1, 1)", y -> y.set(2, -1, 1));
        due.refused(Due.NOTHING, WITH, "set(3, -1, 1)", y -> y.set(3, -1, 1));
        due.refused(Due.BAD, WITH, "set(0, -1, 2)", y -> y.set(0, -1, 2));
        due.refused(Due.BAD, WITH, "set(0, 10, 2)", y -> y.set(0, 10, 2));
        due.refused(Due.BAD, WITH, "set(0, MAX, 2)", y -> y.set(0, Integer.MAX_VALUE, 2));
    }

    private static void copy() {
        due.promise(4);
        WhenCanAllSix x = Scene.sixWithShelves();
        x.row(4, 0, 5);
        due.is("copy(0, 4, 1, 2, 3)", x.copy(0, 4, 1, 2, 3), 3);
        due.row("element(4, i)", i -> x.element(4, i), 0, 0, 4, 5, 6);
        due.is("copy(0, 0, 0, 1, 9), overlapping", x.copy(0, 0, 0, 1, 9), 9);
        due.row("element(0, i)", i -> x.element(0, i), 1, 1, 4, 5, 6, 7, 8, 9, 10, 11);
        due.is("copy(0, 0, 2, 0, 8), overlapping", x.copy(0, 0, 2, 0, 8), 8);
        due.row("element(0, i)", i -> x.element(0, i), 4, 5, 6, 7, 8, 9, 10, 11, 10, 11);
        due.is("copy(0, 4, 9, 4, 0), of none", x.copy(0, 4, 9, 4, 0), 0);
        due.refused(Due.BAD, WITH, "copy(-1, 2, 0, 0, 1)", y -> y.copy(-1, 2, 0, 0, 1));
        due.refused(Due.BAD, WITH, "copy(8, 2, 0, 0, 1)", y -> y.copy(8, 2, 0, 0, 1));
        due.refused(Due.BAD, WITH, "copy(2, -1, 0, 0, 1)", y -> y.copy(2, -1, 0, 0, 1));
        due.refused(Due.BAD, WITH, "copy(2, 8, 0, 0, 1)", y -> y.copy(2, 8, 0, 0, 1));
        due.refused(Due.OTHER, WITH, "copy(2, 3, -1, 0, 1)", y -> y.copy(2, 3, -1, 0, 1));
        due.refused(Due.OTHER, WITH, "copy(3, 2, -1, 0, 1)", y -> y.copy(3, 2, -1, 0, 1));
        due.refused(Due.OTHER, WITH, "copy(0, 1, -1, 0, 1)", y -> y.copy(0, 1, -1, 0, 1));
        due.refused(Due.NOTHING, WITH, "copy(0, 3, -1, 0, 1)", y -> y.copy(0, 3, -1, 0, 1));
        due.refused(Due.NOTHING, WITH, "copy(3, 0, -1, 0, 1)", y -> y.copy(3, 0, -1, 0, 1));
        due.refused(Due.BAD, WITH, "copy(0, 0, -1, 0, 1)", y -> y.copy(0, 0, -1, 0, 1));
        due.refused(Due.BAD, WITH, "copy(0, 0, 0, -1, 1)", y -> y.copy(0, 0, 0, -1, 1));
        due.refused(Due.BAD, WITH, "copy(0, 0, 1, 0, -1)", y -> y.copy(0, 0, 1, 0, -1));
        due.refused(Due.BAD, WITH, "copy(0, 0, 8, 0, 3)", y -> y.copy(0, 0, 8, 0, 3));
        due.refused(Due.BAD, WITH, "copy(0, 0, 0, 8, 3)", y -> y.copy(0, 0, 0, 8, 3));
        due.refused(Due.BAD, WITH, "copy(0, 0, MAX, 0, 1)", y -> y.copy(0, 0, Integer.MAX_VALUE, 0, 1));
        due.refused(Due.BAD, WITH, "copy(0, 0, 1, 0, MAX)", y -> y.copy(0, 0, 1, 0, Integer.MAX_VALUE));
        due.refused(Due.BAD, WITH, "copy(0, 0, 0, 1, MIN)", y -> y.copy(0, 0, 0, 1, Integer.MIN_VALUE));
    }

    private static void element() {
        due.promise(5);
        WhenCanAllSix x = Scene.sixWithShelves();
        due.is("element(1, 2)", x.element(1, 2), 4);
        due.is("element(1, 3)", x.element(1, 3), 0);
        due.is("element(1, -1)", x.element(1, -1), 0);
        due.is("element(2, 0) of a person", x.element(2, 0), 0);
        due.is("element(3, 0) of NOTHING", x.element(3, 0), 0);
        due.is("element(-1, 0)", x.element(-1, 0), 0);
        due.is("element(8, 0)", x.element(8, 0), 0);
        due.row("status 12 +", i -> x.status(12 + i), 0, 0, 0, 0, 0);
        x.show(0, 1);
        due.is("element(0, 0) after show", x.element(0, 0), 0);
        x.row(7, 3, 40);
        x.set(7, 39, -7);
        due.is("element(7, 39)", x.element(7, 39), -7);
        due.is("element(7, 40)", x.element(7, 40), 0);
        due.is("element(7, MAX)", x.element(7, Integer.MAX_VALUE), 0);
        due.is("element(7, MIN)", x.element(7, Integer.MIN_VALUE), 0);
        due.is("element(7, -1)", x.element(7, -1), 0);
    }

    private static void holds() {
        due.promise(6);
        WhenCanAllSix x = Scene.sixWithShelves();
        due.row("holds", x::holds, 0, 1, 13, -1, -1, -1, -1, -1, -1);
        due.is("holds(-1)", x.holds(-1), -1);
        for (int sort = 0; sort <= 4; sort++) {
            x.row(5, sort, 2);
            due.is("holds(5)", x.holds(5), sort);
        }
        due.is("status(12)", x.status(12), 0);
    }

    private static void show() {
        due.promise(7);
        WhenCanAllSix x = Scene.sixWithShelves();
        due.is("show(7, 5)", x.show(7, 5), 1);
        due.is("holds(7)", x.holds(7), 15);
        due.is("show(0, 0) over a ROW", x.show(0, 0), 1);
        due.is("holds(0)", x.holds(0), 10);
        due.is("show(0, NONE)", x.show(0, -1), 1);
        due.is("holds(0)", x.holds(0), -1);
        due.is("show(1, NONE) over a ROW", x.show(1, -1), 1);
        due.is("holds(1)", x.holds(1), -1);
        due.is("show(6, NONE) over NOTHING", x.show(6, -1), 1);
        due.refused(Due.BAD, WITH, "show(-1, 0)", y -> y.show(-1, 0));
        due.refused(Due.BAD, WITH, "show(8, -1)", y -> y.show(8, -1));
        due.refused(Due.BAD, WITH, "show(0, 6)", y -> y.show(0, 6));
        due.refused(Due.BAD, WITH, "show(0, -2)", y -> y.show(0, -2));
        due.refused(Due.BAD, Scene::fresh, "show(0, 0) of nobody", y -> y.show(0, 0));
    }

    private static void says() {
        due.promise(8);
        int[] kinds = {0, 1, 2, 3, 4, 5};
        int no = Due.OTHER;
        // what each KIND says taken for KIND 0 to 5; a is 11, LIKELY 7, two DAYS are FREE
        int[][] want = {
            {2, no, no, no, no, no},
            {2, 7, no, no, no, no},
            {2, no, 11, no, no, no},
            {2, 7, no, 7, no, no},
            {2, no, 11, no, 11, no},
            {2, no, no, no, no, 11},
        };
        for (int kind : kinds) {
            WhenCanAllSix x = new WhenCanAllSix();
            Scene.free(x, x.person(kind, 11, 7), 3, 10);
            x.show(4, 0);
            for (int taken : kinds) {
                due.is("says(4, " + taken + ") of KIND " + kind, x.says(4, taken), want[kind][taken]);
            }
        }
        due.refused(Due.BAD, WITH, "says(-1, 0)", y -> y.says(-1, 0));
        due.refused(Due.BAD, WITH, "says(8, 0)", y -> y.says(8, 0));
        due.refused(Due.BAD, WITH, "says(3, -1)", y -> y.says(3, -1));
        due.refused(Due.BAD, WITH, "says(0, 6)", y -> y.says(0, 6));
        due.refused(Due.OTHER, WITH, "says(0, 0) of a ROW", y -> y.says(0, 0));
        due.refused(Due.OTHER, WITH, "says(2, 2) of a HALF", y -> y.says(2, 2));
        due.refused(Due.NOTHING, WITH, "says(3, 0)", y -> y.says(3, 0));
    }
}
