/** As many PEOPLE and DAYS as there can be: the edges of what is counted over all of them. */
public final class EightTest {
    private static final Due due = new Due("EightTest");

    public static void main(String[] args) {
        ticks();
        dinners();
        odds();
        people();
        plans();
        truth();
        due.end();
    }

    /** One of the PEOPLE by number p is FREE on the seven DAYS from p on, LIKELY 12 less p; 14 DAYS. */
    private static WhenCanAllSix eight() {
        WhenCanAllSix x = new WhenCanAllSix();
        x.days(14);
        for (int p = 0; p < 8; p++) {
            x.person(0, 0, 12 - p);
            for (int day = p; day < p + 7; day++) {
                x.free(p, day, true);
            }
        }
        return x;
    }

    private static void ticks() {
        WhenCanAllSix x = eight();
        due.promise(18);
        due.is("tick(7, 13)", x.tick(7, 13), 2);
        due.is("tick(7, 6)", x.tick(7, 6), 0);
        due.promise(19);
        due.row("count", x::count, 2, 4, 6, 8, 10, 12, 14, 14, 12, 10, 8, 6, 4, 2);
        due.promise(20);
        due.row("best", x::best, 6, 6);
        due.promise(21);
        due.row("there", x::there, 1, 3, 7, 15, 31, 63, 127, 254, 252, 248, 240, 224, 192, 128);
        due.promise(22);
        due.is("all", x.all(), 0);
        due.promise(23);
        due.row("held(i, 0)", i -> x.held(i, 0), 7, 7, 7, 7, 7, 7, 7, 7);
        due.row("held(i, 1)", i -> x.held(i, 1), 6, 6, 6, 6, 6, 6, 6, 7);
        due.promise(35);
        due.is("quiet", x.quiet(), 0);
        due.promise(36);
        due.is("agree(0, 7)", x.agree(0, 7), 0);
        due.is("agree(1, 7)", x.agree(1, 7), 128);
        due.promise(37);
        due.row("votes(6, i)", i -> x.votes(6, i), 1, 0, 7);
        due.row("votes(13, i)", i -> x.votes(13, i), 7, 0, 1);
        due.promise(38);
        due.row("order", x::order, 6, 7, 5, 8, 4, 9, 3, 10, 2, 11, 1, 12, 0, 13);
        due.promise(39);
        due.row("without", x::without, 7, 6, 6, 6, 6, 6, 5, 6);
    }

    private static void dinners() {
        WhenCanAllSix x = eight();
        due.promise(29);
        due.row("two(i - 1)", i -> x.two(i - 1), 8, 0, 7);
        due.promise(30);
        due.is("fixed", x.fixed(), 0);
        due.promise(31);
        due.row("fair(1, i - 1)", i -> x.fair(1, i - 1), 1, 6);
        due.row("fair(2, i - 1)", i -> x.fair(2, i - 1), 1, 6, 7);
        due.row("fair(3, i - 1)", i -> x.fair(3, i - 1), 2, 5, 6, 7);
        due.promise(33);
        due.row("drop", x::drop, 0, 1);
        due.promise(34);
        due.is("pairs", x.pairs(), 1);
        due.promise(44);
        due.row("three(i - 1)", i -> x.three(i - 1), 8, 0, 1, 7);
        due.promise(45);
        x.ask(1, 7);
        due.is("run, LEAST 7", x.run(), 2);
        due.promise(46);
        due.row("weeks", x::weeks, 8, 8, 8, 8, 8, 8, 8);
        due.promise(48);
        due.is("mean", x.mean(), 4000);
        due.promise(51);
        due.row("later, LEAST 7", x::later, 6, 6, 6, 6, 6, 6, 6, 7, -1);
        x.ask(1, 1);
        due.is("later(13), LEAST 1", x.later(13), 13);
        due.is("run, LEAST 1", x.run(), 14);
    }

    private static void odds() {
        WhenCanAllSix x = eight();
        due.promise(27);
        due.is("known(6, 0)", x.known(6, 0), 0);
        x.free(7, 6, true);
        due.is("known(6, 0)", x.known(6, 0), 1000000);
        x.ask(2, 6);
        due.is("known(6, 1): eight times by 2", x.known(6, 1), 3906);
        due.is("known(6, 2)", x.known(6, 2), 15);
        due.promise(28);
        due.row("first", x::first, 7, 6, 5, 4, 3, 2, 1, 0);
        due.promise(40);
        due.is("until(6, 15)", x.until(6, 15), 3);
    }

    private static void people() {
        WhenCanAllSix x = eight();
        due.promise(8);
        x.show(0, 7);
        due.is("says(0, 0)", x.says(0, 0), 7);
        due.promise(32);
        x.out(7, 1);
        due.is("worst", x.worst(), 7);
        x.out(1, 2);
        due.is("worst", x.worst(), 1);
        due.promise(47);
        due.is("spread", x.spread(), 2);
        due.promise(65);
        due.is("status(6)", x.status(6), 3);
        due.promise(41);
        due.is("alone", x.alone(), 0);
        due.promise(42);
        due.row("with", x::with, 16383, 16383, 8190, 4092, 2040, 1008, 480, 192, 0);
        due.promise(43);
        due.row("reach", x::reach, 6, 7, 7, 7, 7, 7, 7, 6);
        due.promise(49);
        due.row("withHost", x::withHost, 0, 1, 2, 3, 4, 5, 6, -1);
        due.promise(58);
        due.is("clear(7)", x.clear(7), 7);
        due.is("alone", x.alone(), 128);
        due.promise(9);
        due.is("days(3)", x.days(3), 14);
        due.row("FREE of i", i -> x.personOf(i, 3), 7, 6, 4, 0, 0, 0, 0, 0);
    }

    private static void plans() {
        WhenCanAllSix x = eight();
        x.row(0, 2, 14);
        for (int day = 0; day < 14; day++) {
            x.set(0, day, day < 7 ? 2 : 0);
        }
        due.promise(52);
        due.is("meant(0, 0)", x.meant(0, 0), 1 + 4);
        due.is("meant(0, 7)", x.meant(0, 7), 0);
        x.set(0, 13, 2);
        due.is("meant(0, 0): the last DAY", x.meant(0, 0), 0);
        x.set(0, 13, 0);
        x.set(0, 0, 0);
        due.is("meant(0, 0): the first DAY", x.meant(0, 0), 0);
        due.promise(53);
        x.set(0, 0, 2);
        x.set(0, 13, 2);
        due.is("freed(0, 7)", x.freed(0, 7), 127 + 8192);
        Scene.row(x, 1, 0, 5, 6, 7, 8, 13);
        due.promise(54);
        x.ask(1, 6);
        due.is("judge(1, 4): just LEAST", x.judge(1, 4), -1);
        due.is("judge(1, 5)", x.judge(1, 5), 4);
        due.promise(55);
        due.row("leftOut(1, 4, i)", i -> x.leftOut(1, 4, i), 6, 2);
        due.promise(56);
        due.is("done(1, 4)", x.done(1, 4), 4);
        due.row("OUT of i", i -> x.personOf(i, 4), 2, 1, 0, 0, 0, 0, 1, 2);
    }

    private static void truth() {
        WhenCanAllSix x = eight();
        due.promise(57);
        due.is("dine(6)", x.dine(6), 7);
        due.is("OUT of 7", x.personOf(7, 4), 1);
        due.promise(59);
        x.ask(2, 12);
        due.is("pass(1), LOSE 12", x.pass(1), 56);
        due.row("FREE of i", i -> x.personOf(i, 3), 0, 0, 0, 0, 0, 0, 0, 0);
        WhenCanAllSix sure = new WhenCanAllSix();
        sure.days(14);
        for (int p = 0; p < 8; p++) {
            sure.person(p % 6, 0, 12);
        }
        due.promise(60);
        due.is("fill", sure.fill(), 112);
        due.is("FREE of 7", sure.personOf(7, 3), 16383);
        due.promise(61);
        sure.ask(1, 8);
        due.is("years(50)", sure.years(50), 50);
        due.promise(64);
        sure.image();
        sure.clear(7);
        sure.back();
        due.is("FREE of 7", sure.personOf(7, 3), 16383);
    }
}
