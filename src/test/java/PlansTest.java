import java.util.function.Supplier;

/** Promises 52 to 56: what a told ROW may mean, and told PLANS. */
public final class PlansTest {
    private static final Due due = new Due("PlansTest");
    private static final Supplier<WhenCanAllSix> WITH = PlansTest::told;

    public static void main(String[] args) {
        meant();
        meantByThoseAhead();
        freed();
        judge();
        leftOut();
        done();
        due.end();
    }

    /** Six; SHELF 0: TICKS, 1: eight elements, 2: one of the PEOPLE, 4: no TICKS, 5: the PLAN 1, 4, 4; NOTHING else. */
    private static WhenCanAllSix told() {
        WhenCanAllSix x = Scene.six();
        Scene.row(x, 0, 0, 0, 2, 0, 0, 2, 0, 0, 0, 0, 7);
        Scene.row(x, 1, 0, 0, 0, 0, 0, 0, 0, 0, 0);
        x.show(2, 0);
        Scene.row(x, 4, 3, 0, 0, 0, 0, 0, 0, 0, 0, 3);
        Scene.row(x, 5, 2, 1, 4, 4);
        return x;
    }

    private static WhenCanAllSix ticked(int sort, long... ticks) {
        WhenCanAllSix x = Scene.six();
        Scene.row(x, 0, sort, ticks);
        return x;
    }

    private static void meant() {
        due.promise(52);
        due.is("meant: PERSON, WAITING", told().meant(0, 2), 1 + 4);
        due.is("meant: all 0", ticked(1, 0, 0, 0, 0, 0, 0, 0, 0, 0).meant(0, 1), 1 + 4 + 16 + 32);
        due.is("meant: all 1", ticked(2, 1, 1, 1, 1, 1, 1, 1, 1, 1).meant(0, 1), 8);
        due.is("meant: all 1, of booleans", ticked(4, 1, 1, 1, 1, 1, 1, 1, 1, 1).meant(0, 1), 8);
        due.is("meant: all 2", ticked(3, 2, 2, 2, 2, 2, 2, 2, 2, 2).meant(0, 0), 2);
        due.is("meant: a 2 on 4", ticked(0, 0, 0, 0, 0, 2, 0, 0, 0, 0).meant(0, 5), 1 + 4 + 16 + 32);
        due.is("meant: a 2 on 4, a 1 else", ticked(0, 1, 1, 1, 1, 2, 1, 1, 1, 1).meant(0, 5), 8);
        due.is("meant: nothing he would tick", ticked(0, 2, 0, 0, 0, 0, 0, 0, 0, 0).meant(0, 5), 0);
        due.is("meant: more elements", told().meant(0, 0), 0);
        due.refused(Due.BAD, WITH, "meant(-1, 0)", y -> y.meant(-1, 0));
        due.refused(Due.BAD, WITH, "meant(8, 0)", y -> y.meant(8, 0));
        due.refused(Due.BAD, WITH, "meant(2, -1)", y -> y.meant(2, -1));
        due.refused(Due.BAD, WITH, "meant(3, 6)", y -> y.meant(3, 6));
        due.refused(Due.OTHER, WITH, "meant(2, 0)", y -> y.meant(2, 0));
        due.refused(Due.NOTHING, WITH, "meant(3, 0)", y -> y.meant(3, 0));
        due.refused(Due.BAD, WITH, "meant(1, 0)", y -> y.meant(1, 0));
        due.refused(Due.STUCK, WITH, "meant(4, 0)", y -> y.meant(4, 0));
        due.refused(Due.STUCK, () -> ticked(0, -1, 0, 0, 0, 0, 0, 0, 0, 0), "meant(0, 0)", y -> y.meant(0, 0));
        due.refused(Due.STUCK, () -> ticked(3, 1L << 32, 0, 0, 0, 0, 0, 0, 0, 0), "meant(0, 0)", y -> y.meant(0, 0));
        due.refused(Due.BAD, () -> ticked(0, 3), "meant(0, 0), few and no TICK", y -> y.meant(0, 0));
    }

    private static void meantByThoseAhead() {
        WhenCanAllSix x = new WhenCanAllSix();
        x.days(3);
        Scene.free(x, x.person(0, 0, 0), 2);
        Scene.free(x, x.person(3, 1, 0), 1, 2);
        Scene.free(x, x.person(0, 0, 0), 0, 1);
        Scene.free(x, x.person(0, 0, 0), 0, 1);
        Scene.row(x, 0, 0, 0, 1, 2);
        Scene.row(x, 1, 0, 0, 0, 2);
        Scene.row(x, 2, 0, 0, 2, 0);
        due.is("WAITING for those ahead alone", x.meant(0, 1), 4);
        due.is("CHOOSY by those ahead alone", x.meant(1, 1), 16);
        due.is("HOPING for a as it is", x.meant(2, 1), 32);
        due.is("he is as he was", x.personOf(1, 0), 3);
    }

    private static void freed() {
        due.promise(53);
        long[] ticks = {0, 1, 2, 0, 1, 2, 0, 0, 2, 3};
        int twos = 4 + 32 + 256;
        WhenCanAllSix x = ticked(0, ticks);
        due.row("freed(0, i)", i -> x.freed(0, i), twos, 0, twos + 2 + 16, twos);
        due.is("freed(0, 5)", x.freed(0, 5), twos);
        due.refused(Due.BAD, WITH, "freed(-1, 0)", y -> y.freed(-1, 0));
        due.refused(Due.BAD, WITH, "freed(8, 0)", y -> y.freed(8, 0));
        due.refused(Due.BAD, WITH, "freed(2, -1)", y -> y.freed(2, -1));
        due.refused(Due.BAD, WITH, "freed(3, 6)", y -> y.freed(3, 6));
        due.refused(Due.OTHER, WITH, "freed(2, 0)", y -> y.freed(2, 0));
        due.refused(Due.NOTHING, WITH, "freed(3, 0)", y -> y.freed(3, 0));
        due.refused(Due.BAD, WITH, "freed(1, 0)", y -> y.freed(1, 0));
        due.refused(Due.STUCK, WITH, "freed(4, 1)", y -> y.freed(4, 1));
    }

    private static long judged(int n, long... plan) {
        return ticked(3, plan).judge(0, n);
    }

    private static void judge() {
        due.promise(54);
        due.is("judge 1, 4", judged(2, 1, 4), -1);
        due.is("judge of none", judged(0, 8), -1);
        due.is("judge 4, 1", judged(2, 4, 1), 1);
        due.is("judge 1, 1", judged(2, 1, 1), 1);
        due.is("judge 1, 4, 4", judged(3, 1, 4, 4), 2);
        due.is("judge 1, 4 of 1, 4, 4", judged(2, 1, 4, 4), -1);
        due.is("judge 4, 1, 4", judged(3, 4, 1, 4), 1);
        due.is("judge 8: one is THERE", judged(1, 8), 0);
        due.is("judge 1, 2: nobody is THERE", judged(2, 1, 2), 1);
        due.is("judge 1, 9: no DAY", judged(2, 1, 9), 1);
        due.is("judge -1: no DAY", judged(1, -1), 0);
        due.is("judge 2^32 + 1: no DAY", judged(1, (1L << 32) + 1), 0);
        due.is("judge -2^63 + 1: no DAY", judged(1, Long.MIN_VALUE + 1), 0);
        WhenCanAllSix x = ticked(4, 1, 1);
        due.is("judge 1, of booleans", x.judge(0, 1), -1);
        x.ask(1, 4);
        due.is("judge 1, LEAST 4", x.judge(0, 1), 0);
        x.row(6, 0, 40);
        due.is("judge of 40", x.judge(6, 40), 0);
        due.is("status(15)", x.status(15), 0);
        due.refused(Due.BAD, WITH, "judge(-1, 0)", y -> y.judge(-1, 0));
        due.refused(Due.BAD, WITH, "judge(8, 0)", y -> y.judge(8, 0));
        due.refused(Due.BAD, WITH, "judge(2, -1)", y -> y.judge(2, -1));
        due.refused(Due.BAD, WITH, "judge(3, 41)", y -> y.judge(3, 41));
        due.refused(Due.OTHER, WITH, "judge(2, 0)", y -> y.judge(2, 0));
        due.refused(Due.NOTHING, WITH, "judge(3, 0)", y -> y.judge(3, 0));
        due.refused(Due.BAD, WITH, "judge(5, 4)", y -> y.judge(5, 4));
    }

    private static void leftOut() {
        due.promise(55);
        WhenCanAllSix x = told();
        x.out(0, 1);
        due.row("leftOut(5, 2, i)", i -> x.leftOut(5, 2, i), 4, 2);
        due.row("leftOut(5, 1, i)", i -> x.leftOut(5, 1, i), 3, 1);
        due.row("leftOut(5, 0, i)", i -> x.leftOut(5, 0, i), 0, 1);
        x.out(1, 98);
        due.row("leftOut(5, 2, i), 99 at most", i -> x.leftOut(5, 2, i), 4, 99);
        due.is("nothing is changed", x.status(6), 99);
        WhenCanAllSix nobody = new WhenCanAllSix();
        nobody.row(0, 0, 1);
        due.row("leftOut(0, 0, i) of nobody", i -> nobody.leftOut(0, 0, i), 0, 0);
        due.refused(Due.BAD, WITH, "leftOut(-1, 0, 0)", y -> y.leftOut(-1, 0, 0));
        due.refused(Due.BAD, WITH, "leftOut(8, 0, 0)", y -> y.leftOut(8, 0, 0));
        due.refused(Due.BAD, WITH, "leftOut(2, -1, 0)", y -> y.leftOut(2, -1, 0));
        due.refused(Due.BAD, WITH, "leftOut(2, 41, 0)", y -> y.leftOut(2, 41, 0));
        due.refused(Due.BAD, WITH, "leftOut(2, 0, 2)", y -> y.leftOut(2, 0, 2));
        due.refused(Due.BAD, WITH, "leftOut(3, 0, -1)", y -> y.leftOut(3, 0, -1));
        due.refused(Due.OTHER, WITH, "leftOut(2, 3, 0)", y -> y.leftOut(2, 3, 0));
        due.refused(Due.NOTHING, WITH, "leftOut(3, 3, 0)", y -> y.leftOut(3, 3, 0));
        due.refused(Due.BAD, WITH, "leftOut(5, 4, 0)", y -> y.leftOut(5, 4, 0));
        due.refused(Due.STUCK, WITH, "leftOut(5, 3, 0)", y -> y.leftOut(5, 3, 0));
        due.refused(Due.STUCK, WITH, "leftOut(5, 3, 1)", y -> y.leftOut(5, 3, 1));
    }

    private static void done() {
        due.promise(56);
        WhenCanAllSix x = told();
        due.is("done(5, 2)", x.done(5, 2), 2);
        due.row("OUT of i", i -> x.personOf(i, 4), 0, 2, 0, 1, 0, 1);
        due.is("done(5, 0)", x.done(5, 0), 2);
        due.is("done(5, 1)", x.done(5, 1), 3);
        due.is("status(5)", x.status(5), 3);
        x.out(1, 98);
        due.is("done(5, 2)", x.done(5, 2), 5);
        due.row("OUT of i, 99 at most", i -> x.personOf(i, 4), 0, 99, 0, 3, 0, 3);
        due.refused(Due.BAD, WITH, "done(-1, 0)", y -> y.done(-1, 0));
        due.refused(Due.BAD, WITH, "done(8, 0)", y -> y.done(8, 0));
        due.refused(Due.BAD, WITH, "done(2, -1)", y -> y.done(2, -1));
        due.refused(Due.BAD, WITH, "done(3, 41)", y -> y.done(3, 41));
        due.refused(Due.OTHER, WITH, "done(2, 0)", y -> y.done(2, 0));
        due.refused(Due.NOTHING, WITH, "done(3, 0)", y -> y.done(3, 0));
        due.refused(Due.BAD, WITH, "done(5, 4)", y -> y.done(5, 4));
        due.refused(Due.STUCK, WITH, "done(5, 3)", y -> y.done(5, 3));
    }
}
