import java.util.function.Supplier;

/** Each sentence on told ROWS of TICKS and told PLANS (promises 52 to 56), held at its edges. */
public final class EdgesOfPlansTest {
    private static final Due due = new Due("EdgesOfPlansTest");
    private static final long FAR = 1L << 32;
    private static final Supplier<WhenCanAllSix> TOLD = EdgesOfPlansTest::told;

    public static void main(String[] args) {
        kindsByWhichHeWouldTickSo();
        aAsItIs();
        allOthersAsTheyTick();
        asManyElementsAsDays();
        meantRefused();
        daysThatMustBeFree();
        freedRefused();
        wrongDays();
        judge();
        howManyAreLeftOut();
        leftOut();
        dinedInTruth();
        doneRefused();
        due.end();
    }

    /**
     * Six on 9 DAYS, with an image, OUT and a TAPE; SHELF 0 a ROW of 9 TICKS, 1 one of 8, 2 one of the PEOPLE,
     * 3 NOTHING, 4 nine of which the last is no TICK, 5 the PLAN 1, 4, 4, of which the first two are right.
     */
    private static WhenCanAllSix told() {
        WhenCanAllSix x = Scene.rich();
        Scene.row(x, 0, 0, 0, 2, 0, 0, 2, 0, 0, 0, 1);
        Scene.row(x, 1, 1, 0, 0, 0, 0, 0, 0, 0, 3);
        Scene.row(x, 4, 3, 0, 0, 0, 0, 0, 0, 0, 0, 3);
        Scene.row(x, 5, 2, 1, 4, 4);
        return x;
    }

    /** As many DAYS, and one of this KIND FREE on all; the TICKS in SHELF 0. */
    private static WhenCanAllSix one(int kind, int a, long... ticks) {
        WhenCanAllSix x = Scene.nobody(ticks.length);
        x.person(kind, a, 6);
        for (int day = 0; day < ticks.length; day++) {
            x.free(0, day, true);
        }
        Scene.row(x, 0, 3, ticks);
        return x;
    }

    private static void kindsByWhichHeWouldTickSo() {
        due.sentence(52, "MEANT by a ROW of TICKS, one for each DAY, of one of the PEOPLE, all others as they tick: "
            + "KINDS (bits) by which, a as it is, he would tick so.");
        for (int kind = 0; kind <= 5; kind++) {
            due.is("all six KINDS, of KIND " + kind, one(kind, 0, 2).meant(0, 0), 63);
            due.is("none, of KIND " + kind, one(kind, 0, 1).meant(0, 0), 0);
        }
        due.is("none but POLITE", clear(one(0, 1, 2)).meant(0, 0), 2);
        due.is("none but HALF", clear(one(0, 1, 1)).meant(0, 0), 8);
        due.is("none but WAITING", one(0, 1, 1).meant(0, 0), 4);
        due.is("0, not FREE: all but POLITE, HALF", clear(one(0, 0, 0, 0)).meant(0, 0), 1 + 4 + 16 + 32);
        due.is("0 on all, FREE: HOPING for none", one(0, 13, 0, 0).meant(0, 0), 32);
        due.is("2 on the first: CHOOSY", one(0, 13, 2, 0, 0).meant(0, 0), 16);
        due.is("2 on the last: HOPING for it", one(0, 2, 0, 0, 2).meant(0, 0), 32);
        due.is("2 on all: PERSON, POLITE, HALF", one(0, 13, 2, 2, 2).meant(0, 0), 1 + 2 + 8);
    }

    private static WhenCanAllSix clear(WhenCanAllSix x) {
        x.clear(0);
        return x;
    }

    private static void aAsItIs() {
        due.sentence(52, "KINDS (bits) by which, a as it is, he would tick so.");
        due.is("a 0: WAITING for nobody", one(0, 0, 2, 2).meant(0, 0), 1 + 2 + 4 + 8);
        due.is("a 1: WAITING for one", one(0, 1, 2, 2).meant(0, 0), 1 + 2 + 8);
        due.is("a 1: WAITING for one, perhaps", one(0, 1, 1, 1).meant(0, 0), 4);
        due.is("a 0: HOPING for 0", one(0, 0, 2, 0).meant(0, 0), 16 + 32);
        due.is("a 1: not HOPING for 0", one(0, 1, 2, 0).meant(0, 0), 16);
    }

    private static void allOthersAsTheyTick() {
        due.sentence(52, "of one of the PEOPLE, all others as they tick:");
        WhenCanAllSix x = Scene.allFree(3, 2);
        x.person(2, 2, 6);
        Scene.free(x, 3, 0, 1);
        x.free(0, 0, false);
        x.free(1, 0, false);
        Scene.row(x, 0, 0, 1, 2);
        due.is("WAITING for two: one and three ahead", x.meant(0, 3), 4);
        Scene.row(x, 0, 0, 0, 2);
        due.is("CHOOSY: three ahead on 1", x.meant(0, 3), 16);
        due.is("of the first, nobody ahead", x.meant(0, 0), 1 + 4);
        Scene.row(x, 0, 0, 1, 1);
        due.is("what is behind isn't seen", x.meant(0, 0), 0);
        WhenCanAllSix polite = Scene.nobody(1);
        polite.person(1, 0, 6);
        polite.person(0, 1, 6);
        polite.free(1, 0, true);
        Scene.row(polite, 0, 0, 2);
        due.is("WAITING for a 2 of one who isn't FREE", polite.meant(0, 1), 1 + 2 + 4 + 8 + 16);
    }

    private static void asManyElementsAsDays() {
        due.sentence(52, "MEANT by the ROW in SHELF s (the first elements, as many as DAYS).");
        WhenCanAllSix x = one(0, 0, 2, 2, 3, -1, 9);
        due.is("meant, 5 DAYS", x.meant(0, 0), Due.STUCK);
        x.days(3);
        due.is("meant, 3 DAYS: the third is no TICK", x.meant(0, 0), Due.STUCK);
        x.days(2);
        due.is("meant, 2 DAYS", x.meant(0, 0), 1 + 2 + 4 + 8);
        due.is("freed, 2 DAYS", x.freed(0, 0), 3);
        Scene.row(x, 1, 0, 2, 2, 2, 1);
        due.is("meant, TICKS behind", x.meant(1, 0), 1 + 2 + 4 + 8);
        due.is("freed, TICKS behind", x.freed(1, 0), 3);
        x.row(1, 3, 40);
        due.is("meant by a ROW of 40", x.meant(1, 0), 0);
        x.row(1, 3, 1);
        due.is("meant by a ROW of 1", x.meant(1, 0), Due.BAD);
        x.days(1);
        due.is("meant by a ROW of 1, 1 DAY", x.meant(1, 0), 0);
        WhenCanAllSix most = one(0, 0, 2, 2, 2, 2, 2, 2, 2, 2, 2, 2, 2, 2, 2, 2);
        due.is("meant by 14", most.meant(0, 0), 1 + 2 + 4 + 8);
        most.set(0, 13, 0);
        due.is("meant by 14, the last is 0", most.meant(0, 0), 0);
        most.row(0, 3, 13);
        due.is("meant by 13, 14 DAYS", most.meant(0, 0), Due.BAD);
    }

    /** The same REFUSALS are those of meant and of freed. */
    private static void refusedAlike(String call, Due.Given shelf, Due.Given person) {
        Supplier<WhenCanAllSix> all = () -> {
            WhenCanAllSix x = Scene.six();
            for (int s = 0; s <= 7; s++) {
                x.row(s, 0, 9);
            }
            return x;
        };
        due.limits(0, 7, all, call + "(v, 0)", shelf);
        due.limits(0, 5, all, call + "(0, v)", person);
        for (int sort = 0; sort <= 4; sort++) {
            int ofSort = sort;
            due.taken(() -> {
                WhenCanAllSix x = Scene.six();
                x.row(0, ofSort, 9);
                return x;
            }, call + " of a ROW of SORT " + sort, x -> shelf.on(x, 0));
        }
        due.refused(Due.OTHER, TOLD, call + "(2, 0) of one of the PEOPLE", x -> shelf.on(x, 2));
        due.refused(Due.NOTHING, TOLD, call + "(3, 0)", x -> shelf.on(x, 3));
        due.refused(Due.BAD, TOLD, call + "(1, 0), BAD: fewer elements, ahead of STUCK", x -> shelf.on(x, 1));
        due.refused(Due.STUCK, TOLD, call + "(4, 0)", x -> shelf.on(x, 4));
        for (long tick : new long[] {-1, 3, FAR, FAR + 2, Long.MIN_VALUE, Long.MAX_VALUE}) {
            String what = call + ", " + tick + " is no TICK";
            due.refused(Due.STUCK, () -> one(0, 0, tick, 2, 2), what + ", the first", x -> shelf.on(x, 0));
            due.refused(Due.STUCK, () -> one(0, 0, 2, tick, 2), what + ", another", x -> shelf.on(x, 0));
            due.refused(Due.STUCK, () -> one(0, 0, 2, 2, tick), what + ", the last", x -> shelf.on(x, 0));
        }
        for (long tick = 0; tick <= 2; tick++) {
            long told = tick;
            due.taken(() -> one(0, 0, told, 2), call + ", " + tick + " is a TICK", x -> shelf.on(x, 0));
        }
        WhenCanAllSix nobody = new WhenCanAllSix();
        nobody.row(0, 0, 11);
        due.is(call + "(0, 0) of nobody", shelf.on(nobody, 0), Due.BAD);
    }

    private static void meantRefused() {
        due.sentence(52, "BAD SHELF, person; OTHER; NOTHING; BAD: fewer elements; STUCK: an element that is no TICK.");
        refusedAlike("meant", (x, v) -> x.meant(v, 0), (x, v) -> x.meant(0, v));
        due.refused(Due.BAD, TOLD, "meant(2, 6), BAD person ahead of OTHER", x -> x.meant(2, 6));
        due.refused(Due.BAD, TOLD, "meant(3, -1), BAD person ahead of NOTHING", x -> x.meant(3, -1));
        due.refused(Due.BAD, TOLD, "meant(4, 6), BAD person ahead of STUCK", x -> x.meant(4, 6));
    }

    private static void daysThatMustBeFree() {
        due.sentence(53, "FREED by it, if he is of his KIND: DAYS (bits) which must be FREE, if he ticks so: "
            + "all DAYS with a 2, of a POLITE NONE at all (0); of a WAITING also those with a 1.");
        long[] twos = {2, 0, 0, 0, 0, 0, 0, 0, 0, 0, 0, 0, 0, 2};
        for (int kind : new int[] {0, 2, 3, 4, 5}) {
            due.is("2s on the first and the last, of KIND " + kind, one(kind, 0, twos).freed(0, 0), 8193);
            due.is("of none, of KIND " + kind, one(kind, 0, 0, 0, 0).freed(0, 0), 0);
        }
        due.is("2s on the first and the last, of a POLITE", one(1, 0, twos).freed(0, 0), 0);
        due.is("2s on all, of a POLITE", one(1, 0, 2, 2, 2).freed(0, 0), 0);
        due.is("2, 1, 0, of a PERSON", one(0, 0, 2, 1, 0).freed(0, 0), 1);
        due.is("2, 1, 0, of a WAITING", one(2, 0, 2, 1, 0).freed(0, 0), 3);
        due.is("2, 1, 0, of a HALF", one(3, 0, 2, 1, 0).freed(0, 0), 1);
        due.is("1s on all, of a WAITING", one(2, 0, 1, 1, 1).freed(0, 0), 7);
        due.is("it needn't be FREE", clear(one(0, 0, 0, 2)).freed(0, 0), 2);
    }

    private static void freedRefused() {
        due.sentence(53, "FREED by it. BAD; OTHER; NOTHING; BAD; STUCK likewise.");
        refusedAlike("freed", (x, v) -> x.freed(v, 0), (x, v) -> x.freed(0, v));
        due.refused(Due.BAD, TOLD, "freed(2, 6), BAD person ahead of OTHER", x -> x.freed(2, 6));
        due.refused(Due.BAD, TOLD, "freed(3, -1), BAD person ahead of NOTHING", x -> x.freed(3, -1));
        due.refused(Due.STUCK, TOLD, "freed(4, 1) of a POLITE", x -> x.freed(4, 1));
        due.refused(Due.BAD, TOLD, "freed(1, 1) of a POLITE", x -> x.freed(1, 1));
    }

    /** On 14 DAYS three are THERE on each but 5, where two are; LEAST 3; the PLAN is in SHELF 0. */
    private static WhenCanAllSix planned(int sort, long... plan) {
        WhenCanAllSix x = Scene.allFree(3, 14);
        x.free(1, 5, false);
        x.ask(1, 3);
        Scene.row(x, 0, sort, plan);
        return x;
    }

    private static void wrong(int place, long... plan) {
        due.is("judge", planned(3, plan).judge(0, plan.length), place);
    }

    private static void wrongDays() {
        due.sentence(54, "A told PLAN: a ROW of DAYS: WRONG: the first that is no DAY, comes twice, isn't later than "
            + "the one ahead, or on which fewer than LEAST are THERE; NONE.");
        wrong(-1);
        wrong(-1, 0);
        wrong(-1, 13);
        wrong(-1, 0, 13);
        wrong(-1, 0, 1, 2, 3, 4, 6, 7, 8, 9, 10, 11, 12, 13);
        wrong(0, 14);
        wrong(0, -1);
        wrong(1, 13, 14);
        wrong(1, 0, -1);
        wrong(0, FAR);
        wrong(1, 0, FAR + 1);
        wrong(0, Long.MIN_VALUE);
        wrong(0, Long.MAX_VALUE);
        wrong(0, Long.MIN_VALUE + 1);
        wrong(1, 0, 0);
        wrong(1, 13, 13, 13);
        wrong(2, 3, 4, 3);
        wrong(1, 4, 3);
        wrong(1, 4, 3, 4);
        wrong(2, 4, 6, 0, 7);
        wrong(0, 5);
        wrong(1, 4, 5, 6);
        wrong(2, 4, 6, 5);
        due.is("judge(0, 1) of booleans", planned(4, 1).judge(0, 1), -1);
        due.is("judge(0, 2) of booleans", planned(4, 0, 1).judge(0, 2), -1);
        due.is("judge(0, 1), just LEAST", planned(0, 6).judge(0, 1), -1);
        WhenCanAllSix x = planned(0, 6);
        x.ask(1, 4);
        due.is("judge(0, 1), one fewer than LEAST", x.judge(0, 1), 0);
        WhenCanAllSix nobody = Scene.nobody(1);
        nobody.ask(1, 1);
        nobody.row(0, 0, 1);
        due.row("judge(0, i) of nobody", n -> nobody.judge(0, n), -1, 0);
    }

    private static WhenCanAllSix rowsOf40() {
        WhenCanAllSix x = Scene.six();
        for (int s = 0; s <= 7; s++) {
            x.row(s, 2, 40);
            x.set(s, 0, 1);
            x.set(s, 1, 4);
        }
        return x;
    }

    private static void judge() {
        due.sentence(54, "WRONG of a told PLAN by the first n elements (0 to 40) of the ROW in SHELF s; NONE. "
            + "BAD SHELF, n; OTHER; NOTHING; BAD: fewer elements.");
        due.row("judge(0, n)", n -> rowsOf40().judge(0, n), -1, -1, -1, 2, 2);
        due.is("judge(0, 40)", rowsOf40().judge(0, 40), 2);
        due.limits(0, 7, EdgesOfPlansTest::rowsOf40, "judge(v, 2)", (x, v) -> x.judge(v, 2));
        due.limits(0, 40, EdgesOfPlansTest::rowsOf40, "judge(0, v)", (x, v) -> x.judge(0, v));
        due.limits(0, 3, TOLD, "judge(5, v) of three elements", (x, v) -> x.judge(5, v));
        due.refused(Due.BAD, TOLD, "judge(2, 41), BAD n ahead of OTHER", x -> x.judge(2, 41));
        due.refused(Due.BAD, TOLD, "judge(2, -1), BAD n ahead of OTHER", x -> x.judge(2, -1));
        due.refused(Due.BAD, TOLD, "judge(3, 41), BAD n ahead of NOTHING", x -> x.judge(3, 41));
        due.refused(Due.BAD, TOLD, "judge(3, -1), BAD n ahead of NOTHING", x -> x.judge(3, -1));
        due.refused(Due.OTHER, TOLD, "judge(2, 0)", x -> x.judge(2, 0));
        due.refused(Due.OTHER, TOLD, "judge(2, 40), OTHER ahead of fewer elements", x -> x.judge(2, 40));
        due.refused(Due.NOTHING, TOLD, "judge(3, 0)", x -> x.judge(3, 0));
        due.refused(Due.NOTHING, TOLD, "judge(3, 40), NOTHING ahead of fewer elements", x -> x.judge(3, 40));
        due.refused(Due.BAD, TOLD, "judge(5, 4): fewer elements", x -> x.judge(5, 4));
        WhenCanAllSix empty = Scene.six();
        empty.row(0, 0, 0);
        due.row("judge(0, n) of a ROW of 0 elements", n -> empty.judge(0, n), -1, Due.BAD);
    }

    private static void howManyAreLeftOut() {
        due.sentence(55, "LEFT OUT by it: how many in all aren't THERE; the greatest OUT then (99 at most).");
        WhenCanAllSix x = Scene.six();
        Scene.row(x, 0, 0, 1, 4);
        due.row("leftOut(0, 2, i)", i -> x.leftOut(0, 2, i), 4, 2);
        due.row("leftOut(0, 1, i)", i -> x.leftOut(0, 1, i), 3, 1);
        due.row("leftOut(0, 0, i)", i -> x.leftOut(0, 0, i), 0, 0);
        x.out(0, 7);
        due.row("leftOut(0, 2, i), OUT of one who is THERE", i -> x.leftOut(0, 2, i), 4, 7);
        x.out(1, 97);
        due.row("leftOut(0, 2, i), just 99", i -> x.leftOut(0, 2, i), 4, 99);
        x.out(1, 98);
        due.row("leftOut(0, 2, i), 99 at most", i -> x.leftOut(0, 2, i), 4, 99);
        x.out(1, 99);
        due.row("leftOut(0, 1, i), 99 at most", i -> x.leftOut(0, 1, i), 3, 99);
        due.is("nothing is changed", x.status(6), 106);
        WhenCanAllSix most = Scene.allFree(8, 14);
        most.row(0, 0, 14);
        for (int day = 0; day < 14; day++) {
            most.set(0, day, day);
        }
        due.row("leftOut(0, 14, i), nobody", i -> most.leftOut(0, 14, i), 0, 0);
        for (int p = 1; p < 8; p++) {
            most.clear(p);
        }
        most.ask(1, 1);
        due.row("leftOut(0, 14, i), all but one", i -> most.leftOut(0, 14, i), 98, 14);
    }

    private static void leftOut() {
        due.sentence(55, "LEFT OUT by it: how many (what 0), the greatest OUT then (1; of nobody 0). "
            + "BAD, also what; OTHER; NOTHING; BAD; STUCK: it is WRONG.");
        WhenCanAllSix nobody = new WhenCanAllSix();
        nobody.row(0, 0, 0);
        due.row("leftOut(0, 0, i) of nobody", i -> nobody.leftOut(0, 0, i), 0, 0);
        due.limits(0, 7, EdgesOfPlansTest::rowsOf40, "leftOut(v, 2, 0)", (x, v) -> x.leftOut(v, 2, 0));
        due.limits(0, 1, EdgesOfPlansTest::rowsOf40, "leftOut(0, 2, v)", (x, v) -> x.leftOut(0, 2, v));
        planRefused("leftOut", (x, s, n) -> x.leftOut(s, n, 0));
        planRefused("leftOut", (x, s, n) -> x.leftOut(s, n, 1));
        for (int what : new int[] {-1, 2}) {
            due.refused(Due.BAD, TOLD, "leftOut, BAD what ahead of OTHER", x -> x.leftOut(2, 0, what));
            due.refused(Due.BAD, TOLD, "leftOut, BAD what ahead of NOTHING", x -> x.leftOut(3, 0, what));
            due.refused(Due.BAD, TOLD, "leftOut, BAD what ahead of STUCK", x -> x.leftOut(5, 3, what));
        }
    }

    /** A call on a PLAN: the SHELF and how many elements. */
    private interface OnPlan {
        long on(WhenCanAllSix x, int s, int n);
    }

    /** The same REFUSALS are those of leftOut and of done. */
    private static void planRefused(String call, OnPlan made) {
        for (int n : new int[] {-1, 41, Integer.MIN_VALUE, Integer.MAX_VALUE}) {
            due.refused(Due.BAD, EdgesOfPlansTest::rowsOf40, call + "(0, " + n + ")", x -> made.on(x, 0, n));
            due.refused(Due.BAD, TOLD, call + "(2, " + n + "), BAD ahead of OTHER", x -> made.on(x, 2, n));
            due.refused(Due.BAD, TOLD, call + "(3, " + n + "), BAD ahead of NOTHING", x -> made.on(x, 3, n));
        }
        due.refused(Due.OTHER, TOLD, call + "(2, 0)", x -> made.on(x, 2, 0));
        due.refused(Due.OTHER, TOLD, call + "(2, 40), OTHER ahead of fewer elements", x -> made.on(x, 2, 40));
        due.refused(Due.NOTHING, TOLD, call + "(3, 0)", x -> made.on(x, 3, 0));
        due.refused(Due.NOTHING, TOLD, call + "(3, 40), NOTHING ahead of fewer elements", x -> made.on(x, 3, 40));
        due.refused(Due.BAD, TOLD, call + "(5, 4): fewer elements, ahead of STUCK", x -> made.on(x, 5, 4));
        due.refused(Due.STUCK, TOLD, call + "(5, 3): 4 comes twice", x -> made.on(x, 5, 3));
        due.refused(Due.STUCK, EdgesOfPlansTest::rowsOf40, call + "(0, 40)", x -> made.on(x, 0, 40));
        due.refused(Due.STUCK, () -> planned(3, 4, 5), call + ", one fewer than LEAST", x -> made.on(x, 0, 2));
        due.refused(Due.STUCK, () -> planned(3, 4, 14), call + ", no DAY", x -> made.on(x, 0, 2));
        due.refused(Due.STUCK, () -> planned(3, 4, FAR + 6), call + ", no DAY", x -> made.on(x, 0, 2));
        due.refused(Due.STUCK, () -> planned(3, 4, 3), call + ", not later", x -> made.on(x, 0, 2));
        due.taken(() -> planned(3, 4, 6), call + ", just LEAST", x -> made.on(x, 0, 2));
        due.taken(() -> planned(3, 13), call + " of the last DAY", x -> made.on(x, 0, 1));
        due.taken(() -> planned(3), call + " of none", x -> made.on(x, 0, 0));
    }

    private static void dinedInTruth() {
        due.sentence(56, "They all are dined in truth: DINNERS.");
        WhenCanAllSix x = Scene.six();
        Scene.row(x, 0, 0, 1, 4);
        due.is("done(0, 0), none", x.done(0, 0), 0);
        due.is("done(0, 2)", x.done(0, 2), 2);
        due.row("OUT of i", i -> x.personOf(i, 4), 0, 2, 0, 1, 0, 1);
        due.is("done(0, 1), DINNERS are all there ever were", x.done(0, 1), 3);
        x.out(1, 97);
        x.done(0, 2);
        due.is("OUT of 1, just 99", x.personOf(1, 4), 99);
        x.done(0, 2);
        due.is("OUT of 1, 99 at most", x.personOf(1, 4), 99);
        due.is("status(5)", x.status(5), 7);
        due.is("the ROW is as it was", x.element(0, 0) + 10 * x.element(0, 1), 41);
    }

    private static void doneRefused() {
        due.sentence(56, "DINNERS. BAD; OTHER; NOTHING; BAD; STUCK likewise.");
        due.limits(0, 7, EdgesOfPlansTest::rowsOf40, "done(v, 2)", (x, v) -> x.done(v, 2));
        planRefused("done", (x, s, n) -> x.done(s, n));
    }
}
