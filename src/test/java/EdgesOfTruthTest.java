import java.util.function.Supplier;

/** Each sentence on what happens in truth, on images and on what is told of it all (57 to 65), held at its edges. */
public final class EdgesOfTruthTest {
    private static final Due due = new Due("EdgesOfTruthTest");
    private static final Supplier<WhenCanAllSix> RICH = Scene::rich;
    private static final int[] SEEDS = {1, 0, -1, 77, Integer.MAX_VALUE, Integer.MIN_VALUE, 2062832000, -1103515245};

    public static void main(String[] args) {
        dinner();
        dine();
        clear();
        aDayPasses();
        pass();
        filled();
        fill();
        yearByYear();
        years();
        draw();
        seed();
        image();
        back();
        backRefused();
        status();
        due.end();
    }

    private static void dinner() {
        due.sentence(57, "IN TRUTH: a DINNER on a DAY: OUT of all who aren't THERE is 1 more (99 at most); "
            + "DINNERS is 1 more.");
        WhenCanAllSix x = Scene.allFree(8, 14);
        x.free(0, 13, false);
        x.free(7, 13, false);
        x.out(0, 98);
        x.out(1, 5);
        x.dine(13);
        due.row("OUT of", i -> x.personOf(i, 4), 99, 5, 0, 0, 0, 0, 0, 1);
        x.dine(13);
        due.row("OUT of, 99 at most", i -> x.personOf(i, 4), 99, 5, 0, 0, 0, 0, 0, 2);
        x.dine(0);
        due.row("OUT of, all are THERE", i -> x.personOf(i, 4), 99, 5, 0, 0, 0, 0, 0, 2);
        due.is("DINNERS", x.status(5), 3);
        due.is("it is FREE as it was", x.personOf(1, 3), 16383);
        WhenCanAllSix polite = Scene.nobody(1);
        polite.person(1, 0, 12);
        polite.free(polite.person(0, 0, 0), 0, true);
        polite.ask(1, 1);
        polite.dine(0);
        due.row("OUT of a POLITE who isn't FREE", i -> polite.personOf(i, 4), 1, 0);
    }

    private static void dine() {
        due.sentence(57, "A DINNER in truth on a DAY: how many are THERE. BAD; STUCK: fewer than LEAST.");
        due.is("dine, all", Scene.allFree(8, 14).dine(13), 8);
        due.is("dine, just LEAST", Scene.allFree(2, 1).dine(0), 2);
        due.refused(Due.STUCK, () -> Scene.allFree(1, 1), "dine, one fewer than LEAST", x -> x.dine(0));
        due.refused(Due.STUCK, RICH, "dine(8): one is THERE", x -> x.dine(8));
        due.refused(Due.STUCK, RICH, "dine(0): nobody is THERE", x -> x.dine(0));
        due.refused(Due.STUCK, Scene::fresh, "dine(0) of nobody", x -> x.dine(0));
        due.limits(0, 13, () -> Scene.allFree(8, 14), "dine(v)", (x, v) -> x.dine(v));
        due.limits(0, 0, () -> Scene.allFree(2, 1), "dine(v)", (x, v) -> x.dine(v));
        due.refused(Due.BAD, RICH, "dine(9), BAD ahead of STUCK", x -> x.dine(9));
        due.refused(Due.BAD, Scene::fresh, "dine(11) of nobody, BAD ahead of STUCK", x -> x.dine(11));
    }

    private static void clear() {
        due.sentence(58, "No DAY is FREE for one any more: how many were. BAD.");
        WhenCanAllSix x = Scene.allFree(8, 14);
        due.is("clear(7), all were", x.clear(7), 14);
        due.is("clear(7), none were", x.clear(7), 0);
        due.row("FREE of 6 +", i -> x.personOf(6 + i, 3), 16383, 0);
        due.limits(0, 5, RICH, "clear(v)", (y, v) -> y.clear(v));
        due.limits(0, 7, Scene::eight, "clear(v)", (y, v) -> y.clear(v));
        due.refused(Due.BAD, Scene::fresh, "clear(0) of nobody", y -> y.clear(0));
    }

    /** The DAYS that are FREE for each, by what is seen. */
    private static boolean[][] freeOf(WhenCanAllSix x) {
        boolean[][] free = new boolean[x.status(0)][x.status(1)];
        for (int p = 0; p < free.length; p++) {
            int bits = x.personOf(p, 3);
            for (int day = 0; day < free[p].length; day++) {
                free[p][day] = (bits >> day & 1) == 1;
            }
        }
        return free;
    }

    private static void freeDue(WhenCanAllSix x, boolean[][] free) {
        for (int p = 0; p < free.length; p++) {
            int bits = 0;
            for (int day = 0; day < free[p].length; day++) {
                bits |= free[p][day] ? 1 << day : 0;
            }
            due.is("FREE of " + p, x.personOf(p, 3), bits);
        }
    }

    private static void passes(WhenCanAllSix x, int seed, int lose, int n) {
        x.seed(seed);
        x.ask(2, lose);
        boolean[][] free = freeOf(x);
        Draws draws = new Draws(seed);
        int gone = 0;
        for (int i = 0; i < n; i++) {
            for (boolean[] his : free) {
                for (int day = 0; day < his.length; day++) {
                    if (his[day] && draws.next() < lose) {
                        his[day] = false;
                        gone++;
                    }
                }
            }
        }
        due.is("pass(" + n + ") by SEED " + seed + ", LOSE " + lose, x.pass(n), gone);
        freeDue(x, free);
        due.is("SEED", x.status(8), draws.seed());
    }

    private static void aDayPasses() {
        due.sentence(59, "A DAY PASSES: for each of the PEOPLE in turn, for each FREE DAY in turn a DRAW below 12: "
            + "if it is below LOSE, it is FREE no more.");
        for (int seed : SEEDS) {
            for (int lose : new int[] {0, 1, 6, 11, 12}) {
                passes(Scene.allFree(8, 14), seed, lose, 1);
                passes(Scene.rich(), seed, lose, 2);
            }
        }
        WhenCanAllSix none = Scene.eight();
        passes(none, 5, 12, 1);
        due.is("no FREE DAY, no DRAW: SEED", none.status(8), 5);
        WhenCanAllSix nobody = Scene.nobody(14);
        passes(nobody, 5, 12, 99);
        due.is("nobody, no DRAW: SEED", nobody.status(8), 5);
        WhenCanAllSix sure = Scene.allFree(8, 14);
        sure.ask(2, 0);
        due.is("LOSE 0: pass(99)", sure.pass(99), 0);
        sure.ask(2, 12);
        due.is("LOSE 12: pass(1)", sure.pass(1), 112);
    }

    private static void pass() {
        due.sentence(59, "n DAYS (1 to 99) PASS in truth: how many FREE evenings went. BAD.");
        passes(Scene.allFree(8, 14), 3, 1, 99);
        passes(Scene.allFree(8, 14), 3, 1, 98);
        passes(Scene.allFree(1, 1), 3, 12, 99);
        due.limits(1, 99, RICH, "pass(v)", (x, v) -> x.pass(v));
        due.limits(1, 99, Scene::fresh, "pass(v) of nobody", (x, v) -> x.pass(v));
    }

    private static void fills(WhenCanAllSix x, int seed) {
        x.seed(seed);
        boolean[][] free = freeOf(x);
        Draws draws = new Draws(seed);
        int evenings = 0;
        for (int p = 0; p < free.length; p++) {
            for (int day = 0; day < free[p].length; day++) {
                free[p][day] = draws.next() < x.personOf(p, 2);
                evenings += free[p][day] ? 1 : 0;
            }
        }
        due.is("fill by SEED " + seed, x.fill(), evenings);
        freeDue(x, free);
        due.is("SEED", x.status(8), draws.seed());
    }

    private static void filled() {
        due.sentence(60, "FILLED by draws: for each of the PEOPLE in turn, for each DAY in turn a DRAW below 12: FREE, "
            + "if it is below LIKELY, else not.");
        for (int seed : SEEDS) {
            fills(Scene.allFree(8, 14), seed);
            fills(Scene.eight(), seed);
            fills(Scene.rich(), seed);
            fills(Scene.allFree(1, 1), seed);
        }
        fills(Scene.nobody(14), 5);
        for (int kind = 0; kind <= 5; kind++) {
            WhenCanAllSix mixed = Scene.nobody(3);
            for (int likely : new int[] {0, 6, 12, 6, 0, 12, 1, 11}) {
                mixed.person(kind, 1, likely);
            }
            fills(mixed, 9 + kind);
        }
        WhenCanAllSix x = new WhenCanAllSix();
        x.person(1, 0, 0);
        x.person(2, 0, 12);
        x.free(0, 10, true);
        x.fill();
        due.row("FREE, LIKELY 0, LIKELY 12", i -> x.personOf(i, 3), 0, 2047);
    }

    private static void fill() {
        due.sentence(60, "FILLED by draws: how many FREE evenings there are then.");
        due.is("fill of nobody", Scene.nobody(14).fill(), 0);
        WhenCanAllSix x = Scene.nobody(14);
        for (int p = 0; p < 8; p++) {
            x.person(p % 6, 0, 12);
        }
        due.is("fill, LIKELY 12", x.fill(), 112);
        due.is("fill again", x.fill(), 112);
        WhenCanAllSix none = Scene.allFree(0, 14);
        none.person(0, 0, 0);
        Scene.free(none, 0, 3);
        due.is("fill, LIKELY 0", none.fill(), 0);
    }

    private static void yearByYear() {
        due.sentence(61, "YEARS by draws, n: each: FILLED; if on BEST at least LEAST are THERE, a DINNER on it; how many.");
        for (int least : new int[] {1, 2, 4, 5, 8}) {
            WhenCanAllSix x = Scene.rich();
            WhenCanAllSix twin = Scene.rich();
            x.ask(1, least);
            twin.ask(1, least);
            int dinners = 0;
            for (int year = 0; year < 50; year++) {
                twin.fill();
                dinners += twin.dine(twin.best(0)) > 0 ? 1 : 0;
            }
            due.is("years(50), LEAST " + least, x.years(50), dinners);
            due.isTrue("all is as by fill, best and dine", Look.at(x).equals(Look.at(twin)));
        }
        WhenCanAllSix all = Scene.nobody(14);
        all.person(0, 0, 12);
        all.person(0, 0, 12);
        all.person(0, 0, 0);
        due.is("years(1), just LEAST", all.years(1), 1);
        due.is("years(50)", all.years(50), 50);
        due.is("DINNERS", all.status(5), 51);
        due.is("years(49)", all.years(49), 49);
        due.row("OUT of, 99 at most", i -> all.personOf(i, 4), 0, 0, 99);
        all.ask(1, 3);
        due.is("years(50), one fewer than LEAST", all.years(50), 0);
        due.is("DINNERS", all.status(5), 100);
        due.row("OUT of", i -> all.personOf(i, 4), 0, 0, 99);
    }

    private static void years() {
        due.sentence(61, "YEARS (n 1 to 50): how many DINNERS. BAD; STUCK: nobody.");
        due.limits(1, 50, RICH, "years(v)", (x, v) -> x.years(v));
        due.refused(Due.STUCK, Scene::fresh, "years(1) of nobody", x -> x.years(1));
        due.refused(Due.STUCK, Scene::fresh, "years(50) of nobody", x -> x.years(50));
        due.refused(Due.BAD, Scene::fresh, "years(0) of nobody, BAD ahead of STUCK", x -> x.years(0));
        due.refused(Due.BAD, Scene::fresh, "years(51) of nobody, BAD ahead of STUCK", x -> x.years(51));
    }

    private static void draw() {
        due.sentence(62, "A DRAW below n: SEED (1 at first) becomes SEED times 1103515245, and 12345 (an int, wrapping); "
            + "its upper 16 bits, no sign, modulo n.");
        due.is("SEED at first", new WhenCanAllSix().status(8), 1);
        for (int seed : SEEDS) {
            WhenCanAllSix x = Scene.nobody(1);
            x.person(0, 0, 6);
            x.seed(seed);
            x.fill();
            due.is("SEED behind " + seed, x.status(8), (int) (1103515245L * seed + 12345));
        }
        // SEED 1 becomes 1103527590; its upper 16 bits are 16838, and 2 modulo 12.
        due.row("fill by SEED 1, LIKELY", k -> fillOne(1, k), 0, 0, 0, 1);
        // SEED 0 becomes 12345; its upper 16 bits are 0.
        due.row("fill by SEED 0, LIKELY", k -> fillOne(0, k), 0, 1);
        // SEED -1 becomes -1103502900; its upper 16 bits, no sign, are 48697, and 1 modulo 12; with a sign -7.
        due.row("fill by SEED -1, LIKELY", k -> fillOne(-1, k), 0, 0, 1, 1);
    }

    private static int fillOne(int seed, long likely) {
        WhenCanAllSix x = Scene.nobody(1);
        x.person(0, 0, (int) likely);
        x.seed(seed);
        return x.fill();
    }

    private static void seed() {
        due.sentence(62, "SEED becomes v: the one ahead.");
        WhenCanAllSix x = new WhenCanAllSix();
        int ahead = 1;
        for (int v : new int[] {Integer.MAX_VALUE, Integer.MIN_VALUE, 0, -1, -2, 65536, 1}) {
            due.is("seed(" + v + ")", x.seed(v), ahead);
            due.is("status(8)", x.status(8), v);
            ahead = v;
        }
        due.row("status 12 +, -2 as an answer refuses nothing", i -> x.status(12 + i), 0, 0, 0, 0, 0);
    }

    private static void image() {
        due.sentence(63, "All is kept, but THE TAPE, SHELVES and REFUSALS: 1.");
        WhenCanAllSix x = Scene.rich();
        String before = Look.at(x);
        due.is("image", x.image(), 1);
        due.isTrue("image changes nothing", Look.at(x).equals(before));
        x.wipe();
        changeAll(x);
        x.row(0, 2, 3);
        x.show(2, -1);
        x.feed('x');
        x.days(0);
        due.is("back", x.back(), 1);
        due.row("status", x::status, 6, 9, 5, 2, 7, 1, 13, 1, 77, 2);
        due.is("THE TAPE is as it is now", x.calendar(), -20);
        due.row("holds as they do now", x::holds, 2, 1, -1, -1, -1, -1, -1, -1);
        due.row("REFUSALS are as they are now: status 12 +", i -> x.status(12 + i), 2, 0, 0, 0, 0);
        due.is("image of nobody", new WhenCanAllSix().image(), 1);
    }

    /** Something else in all that an image keeps. */
    private static void changeAll(WhenCanAllSix x) {
        due.is("calendar", Scene.read(x, "days 3;person 3 1 4;host 6;least 5;lose 5;out 0 5;free 1 2;busy 0 1"), 8);
        x.ask(1, 1);
        x.dine(2);
        x.seed(-9);
    }

    private static void back() {
        due.sentence(64, "All is again as it was kept (SHELVES with PEOPLE hold those of the same numbers, or NOTHING): 1.");
        WhenCanAllSix x = Scene.rich();
        x.wipe();
        String kept = Look.atPeople(x);
        x.image();
        for (int times = 0; times < 2; times++) {
            changeAll(x);
            due.isTrue("something else", !Look.atPeople(x).equals(kept));
            due.is("back", x.back(), 1);
            due.isTrue("all is as it was kept", Look.atPeople(x).equals(kept));
        }
        due.is("back, nothing was changed", x.back(), 1);
        newestImage();
        shelvesGoneBack();
    }

    private static void newestImage() {
        WhenCanAllSix x = Scene.rich();
        x.wipe();
        x.image();
        changeAll(x);
        x.image();
        String newer = Look.atPeople(x);
        x.clear(1);
        x.back();
        due.isTrue("the newer image is kept", Look.atPeople(x).equals(newer));
    }

    private static void shelvesGoneBack() {
        WhenCanAllSix y = new WhenCanAllSix();
        y.person(2, 9, 5);
        y.image();
        y.person(0, 0, 0);
        y.free(0, 3, true);
        y.free(1, 3, true);
        y.out(1, 7);
        y.show(0, 0);
        y.show(1, 1);
        y.show(7, 1);
        y.row(2, 4, 0);
        y.back();
        due.row("holds: the same numbers, or NOTHING", y::holds, 10, -1, 4, -1, -1, -1, -1, -1);
        due.is("says(0, 0), as he was kept", y.says(0, 0), 0);
        due.is("says(0, 2)", y.says(0, 2), 9);
        due.is("status(9)", y.status(9), 2);
        due.is("person", y.person(3, 1, 2), 1);
        due.row("personOf(1, i), as any new one", i -> y.personOf(1, i), 3, 1, 2, 0, 0);
        due.is("holds(1), it was NOTHING", y.holds(1), -1);
        WhenCanAllSix nobody = new WhenCanAllSix();
        nobody.image();
        nobody.person(0, 0, 0);
        for (int s = 0; s <= 7; s++) {
            nobody.show(s, 0);
        }
        nobody.back();
        due.row("holds, back to nobody", nobody::holds, -1, -1, -1, -1, -1, -1, -1, -1);
        due.is("status(0)", nobody.status(0), 0);
    }

    private static void backRefused() {
        due.sentence(64, "STUCK: nothing was.");
        due.refused(Due.STUCK, Scene::sixWithShelves, "back", WhenCanAllSix::back);
        due.refused(Due.STUCK, Scene::fresh, "back", WhenCanAllSix::back);
        due.taken(() -> {
            WhenCanAllSix x = new WhenCanAllSix();
            x.image();
            return x;
        }, "back, as it was new", WhenCanAllSix::back);
    }

    private static void status() {
        due.sentence(65, "PEOPLE (0), DAYS (1), HOST (2), LEAST (3), LOSE (4), DINNERS (5), all OUT together (6), "
            + "THE TAPE's size (7), SEED (8), SHELVES that hold something (9); 12 to 16: REFUSALS -2 to -6. "
            + "NONE another what.");
        due.row("status of the least", new WhenCanAllSix()::status, 0, 11, 0, 2, 1, 0, 0, 0, 1, 0);
        for (int s = 0; s <= 7; s++) {
            WhenCanAllSix x = new WhenCanAllSix();
            x.row(s, 4, 0);
            due.is("status(9), SHELF " + s + " alone", x.status(9), 1);
        }
        due.row("status of six", Scene.rich()::status, 6, 9, 5, 2, 7, 1, 13, 6, 77, 3);
        WhenCanAllSix most = Scene.eight();
        for (int p = 0; p < 8; p++) {
            most.out(p, 99);
            most.row(p, 0, 0);
        }
        for (int i = 0; i < 250; i++) {
            most.feed(' ');
        }
        most.ask(0, 7);
        most.ask(1, 8);
        most.ask(2, 12);
        most.seed(-6);
        due.row("status of the most", most::status, 8, 14, 7, 8, 12, 0, 792, 250, -6, 8);
        for (int what : new int[] {-1, 10, 11, 17, 18, Integer.MIN_VALUE, Integer.MAX_VALUE}) {
            due.is("status(" + what + ")", most.status(what), Due.NONE);
        }
        due.row("status 12 +, nothing was refused", i -> most.status(12 + i), 0, 0, 0, 0, 0);
        most.days(0);
        most.show(0, 0);
        most.set(0, 0, 0);
        most.show(0, -1);
        most.set(0, 0, 0);
        most.set(0, 0, 0);
        for (int i = 0; i < 4; i++) {
            most.dine(0);
        }
        for (int i = 0; i < 5; i++) {
            most.feed(' ');
        }
        due.row("status 12 +", i -> most.status(12 + i), 1, 1, 2, 4, 5);
        due.is("status(9), one SHELF is empty", most.status(9), 7);
    }
}
