import java.util.function.Supplier;

/** Promises 57 to 65: dinners and days in truth, draws, images and what is told of it all. */
public final class TruthTest {
    private static final Due due = new Due("TruthTest");
    private static final Supplier<WhenCanAllSix> SIX = Scene::six;

    public static void main(String[] args) {
        dine();
        clear();
        pass();
        fill();
        years();
        seed();
        image();
        back();
        backAndShelves();
        status();
        due.end();
    }

    private static void dine() {
        due.promise(57);
        WhenCanAllSix x = Scene.six();
        due.is("dine(4)", x.dine(4), 5);
        due.is("dine(1)", x.dine(1), 3);
        due.row("OUT of i", i -> x.personOf(i, 4), 0, 2, 0, 1, 0, 1);
        due.is("status(5)", x.status(5), 2);
        x.out(1, 99);
        due.is("dine(4)", x.dine(4), 5);
        due.is("OUT of 1, 99 at most", x.personOf(1, 4), 99);
        x.ask(1, 5);
        due.is("dine(4), LEAST 5", x.dine(4), 5);
        due.refused(Due.BAD, SIX, "dine(-1)", y -> y.dine(-1));
        due.refused(Due.BAD, SIX, "dine(9)", y -> y.dine(9));
        due.refused(Due.STUCK, SIX, "dine(8)", y -> y.dine(8));
        due.refused(Due.STUCK, Scene::fresh, "dine(0)", y -> y.dine(0));
    }

    private static void clear() {
        due.promise(58);
        WhenCanAllSix x = Scene.six();
        due.is("clear(0)", x.clear(0), 3);
        due.is("clear(0)", x.clear(0), 0);
        due.is("FREE of 0", x.personOf(0, 3), 0);
        due.is("FREE of 2", x.personOf(2, 3), 18);
        due.refused(Due.BAD, SIX, "clear(-1)", y -> y.clear(-1));
        due.refused(Due.BAD, SIX, "clear(6)", y -> y.clear(6));
    }

    /** What is FREE after days that PASS, as it is due by DRAWS. */
    private static void passDue(int seed, int lose, int n) {
        WhenCanAllSix x = Scene.six();
        x.seed(seed);
        x.ask(2, lose);
        int[] free = new int[6];
        for (int p = 0; p < 6; p++) {
            free[p] = x.personOf(p, 3);
        }
        Draws draws = new Draws(seed);
        int gone = 0;
        for (int t = 0; t < n; t++) {
            for (int p = 0; p < 6; p++) {
                for (int day = 0; day < 9; day++) {
                    if ((free[p] & 1 << day) != 0 && draws.next() < lose) {
                        free[p] -= 1 << day;
                        gone++;
                    }
                }
            }
        }
        due.is("pass(" + n + ") by SEED " + seed + ", LOSE " + lose, x.pass(n), gone);
        for (int p = 0; p < 6; p++) {
            due.is("FREE of " + p, x.personOf(p, 3), free[p]);
        }
        due.is("SEED", x.status(8), draws.seed());
    }

    private static void pass() {
        due.promise(59);
        for (int seed = -3; seed < 4; seed++) {
            passDue(seed * 123456789, 1, 1);
            passDue(seed, 3, 2);
            passDue(seed, 1, 5);
        }
        passDue(7, 0, 99);
        passDue(7, 12, 1);
        passDue(7, 12, 99);
        due.refused(Due.BAD, SIX, "pass(0)", y -> y.pass(0));
        due.refused(Due.BAD, SIX, "pass(100)", y -> y.pass(100));
        due.is("pass of nobody", new WhenCanAllSix().pass(99), 0);
    }

    private static void fillDue(int seed) {
        WhenCanAllSix x = Scene.six();
        x.person(0, 0, 0);
        x.person(0, 0, 12);
        x.seed(seed);
        Draws draws = new Draws(seed);
        int[] free = new int[8];
        int evenings = 0;
        for (int p = 0; p < 8; p++) {
            for (int day = 0; day < 9; day++) {
                if (draws.next() < x.personOf(p, 2)) {
                    free[p] += 1 << day;
                    evenings++;
                }
            }
        }
        due.is("fill by SEED " + seed, x.fill(), evenings);
        for (int p = 0; p < 8; p++) {
            due.is("FREE of " + p, x.personOf(p, 3), free[p]);
        }
        due.is("SEED", x.status(8), draws.seed());
    }

    private static void fill() {
        due.promise(60);
        for (int seed = -3; seed < 4; seed++) {
            fillDue(seed);
            fillDue(seed * 987654321);
        }
        WhenCanAllSix nobody = new WhenCanAllSix();
        due.is("fill of nobody", nobody.fill(), 0);
        due.is("SEED", nobody.status(8), 1);
    }

    private static void years() {
        due.promise(61);
        WhenCanAllSix x = new WhenCanAllSix();
        x.person(0, 0, 12);
        x.person(0, 0, 0);
        due.is("years(50), LEAST 2", x.years(50), 0);
        x.ask(1, 1);
        due.is("years(1)", x.years(1), 1);
        due.is("years(50)", x.years(50), 50);
        due.is("status(5)", x.status(5), 51);
        due.row("OUT of i", i -> x.personOf(i, 4), 0, 51);
        due.is("years(50)", x.years(50), 50);
        due.row("OUT of i, 99 at most", i -> x.personOf(i, 4), 0, 99);

        // The same years told by fill, best and dine.
        WhenCanAllSix one = Scene.six();
        WhenCanAllSix other = Scene.six();
        int dinners = 0;
        for (int year = 0; year < 20; year++) {
            one.fill();
            if (one.dine(one.best(0)) > 0) {
                dinners++;
            }
        }
        one.ask(1, 4);
        for (int year = 0; year < 20; year++) {
            one.fill();
            if (one.dine(one.best(0)) > 0) {
                dinners++;
            }
        }
        int told = other.years(20);
        other.ask(1, 4);
        told += other.years(20);
        due.is("years by years", told, dinners);
        due.isTrue("all as by fill, best and dine", Look.at(other).equals(Look.at(one)));
        due.refused(Due.BAD, SIX, "years(0)", y -> y.years(0));
        due.refused(Due.BAD, Scene::fresh, "years(51)", y -> y.years(51));
        due.refused(Due.STUCK, Scene::fresh, "years(50)", y -> y.years(50));
    }

    private static void seed() {
        due.promise(62);
        WhenCanAllSix x = new WhenCanAllSix();
        due.is("seed(-7)", x.seed(-7), 1);
        due.is("seed(MAX)", x.seed(Integer.MAX_VALUE), -7);
        due.is("seed(MIN)", x.seed(Integer.MIN_VALUE), Integer.MAX_VALUE);
        due.is("status(8)", x.status(8), Integer.MIN_VALUE);
        due.is("seed(0)", x.seed(0), Integer.MIN_VALUE);
        due.row("status 12 +", i -> x.status(12 + i), 0, 0, 0, 0, 0);
    }

    private static void changeAll(WhenCanAllSix x) {
        Scene.read(x, "days 3;person 3 1 4;host 6;least 5;lose 5;out 0 5;free 1 2;busy 0 1;free 6 0");
        x.ask(1, 1);
        x.dine(2);
        x.seed(77);
    }

    private static void image() {
        due.promise(63);
        WhenCanAllSix x = Scene.six();
        String before = Look.at(x);
        due.is("image", x.image(), 1);
        due.isTrue("image changes nothing", Look.at(x).equals(before));
        changeAll(x);
        String changed = Look.at(x);
        due.isTrue("all else changed", !changed.equals(before));
        due.is("image anew", x.image(), 1);
        x.days(9);
        x.clear(6);
        x.back();
        due.isTrue("the newer image is kept", Look.at(x).equals(changed));
        due.is("image of nobody", new WhenCanAllSix().image(), 1);
    }

    private static void back() {
        due.promise(64);
        WhenCanAllSix x = Scene.six();
        x.ask(0, 4);
        x.out(2, 12);
        x.dine(4);
        String before = Look.at(x);
        x.image();
        for (int times = 0; times < 2; times++) {
            changeAll(x);
            due.is("back", x.back(), 1);
            due.isTrue("all as it was kept", Look.at(x).equals(before));
        }
        WhenCanAllSix y = Scene.six();
        y.image();
        y.feed('d');
        y.days(0);
        y.row(1, 2, 3);
        y.back();
        due.is("THE TAPE isn't kept", y.status(7), 1);
        due.is("REFUSALS aren't kept", y.status(12), 1);
        due.is("SHELVES aren't kept", y.holds(1), 2);
        due.refused(Due.STUCK, Scene::sixWithShelves, "back", z -> z.back());
    }

    private static void backAndShelves() {
        WhenCanAllSix x = new WhenCanAllSix();
        x.person(2, 3, 4);
        x.person(0, 0, 0);
        x.image();
        x.person(0, 0, 0);
        x.show(0, 2);
        x.show(1, 1);
        x.show(2, 0);
        x.row(3, 1, 1);
        x.free(0, 5, true);
        due.is("says(2, 0)", x.says(2, 0), 1);
        x.back();
        due.row("holds", x::holds, -1, 11, 10, 1, -1);
        due.is("says(2, 0) of him as he was kept", x.says(2, 0), 0);
        due.is("says(2, 2)", x.says(2, 2), 3);
        due.is("status(9)", x.status(9), 3);
        due.is("person", x.person(0, 0, 0), 2);
        due.is("holds(0)", x.holds(0), -1);
    }

    private static void status() {
        due.promise(65);
        WhenCanAllSix x = Scene.six();
        x.ask(0, 5);
        x.ask(1, 1);
        x.ask(2, 7);
        x.dine(8);
        x.out(0, 20);
        x.feed('x');
        x.seed(-5);
        x.row(0, 0, 0);
        x.show(7, 1);
        due.row("status", x::status, 6, 9, 5, 1, 7, 1, 25, 1, -5, 2);
        due.is("status(10)", x.status(10), -1);
        due.is("status(11)", x.status(11), -1);
        due.is("status(17)", x.status(17), -1);
        due.is("status(-1)", x.status(-1), -1);
        x.days(0);
        x.days(0);
        x.set(7, 0, 0);
        x.set(6, 0, 0);
        x.back();
        x.dine(0);
        x.person(0, 0, 0);
        x.person(0, 0, 0);
        x.person(0, 0, 0);
        due.row("status 12 +", i -> x.status(12 + i), 2, 1, 1, 2, 1);
        due.is("status isn't refused", x.status(99), -1);
        due.is("status(12)", x.status(12), 2);
    }
}
