import java.util.function.Supplier;

/** Promises 9 to 17: DAYS, PEOPLE, THE TAPE and the CALENDAR read from it. */
public final class CalendarTest {
    private static final Due due = new Due("CalendarTest");
    private static final Supplier<WhenCanAllSix> SIX = Scene::six;

    public static void main(String[] args) {
        days();
        person();
        free();
        ask();
        out();
        feed();
        wipe();
        calendarRead();
        calendarAddsToWhatThereIs();
        calendarFaults();
        calendarOrNothing();
        personOf();
        due.end();
    }

    private static WhenCanAllSix eight() {
        WhenCanAllSix x = new WhenCanAllSix();
        for (int i = 0; i < 8; i++) {
            x.person(i % 6, i, 12 - i);
        }
        return x;
    }

    private static void days() {
        due.promise(9);
        WhenCanAllSix x = Scene.six();
        due.is("days(14)", x.days(14), 9);
        due.is("days(8)", x.days(8), 14);
        due.is("days(9)", x.days(9), 8);
        due.is("FREE of 0 without DAY 8", x.personOf(0, 3), 2 + 16);
        due.is("days(1)", x.days(1), 9);
        due.is("days(14)", x.days(14), 1);
        due.is("all FREE evenings", x.mean(), 0);
        due.refused(Due.BAD, SIX, "days(0)", y -> y.days(0));
        due.refused(Due.BAD, SIX, "days(15)", y -> y.days(15));
        due.refused(Due.BAD, SIX, "days(-1)", y -> y.days(-1));
    }

    private static void person() {
        due.promise(10);
        WhenCanAllSix x = new WhenCanAllSix();
        due.is("person(0, 0, 0)", x.person(0, 0, 0), 0);
        due.is("person(5, 13, 12)", x.person(5, 13, 12), 1);
        due.row("personOf(1, i)", i -> x.personOf(1, i), 5, 13, 12, 0, 0);
        for (int i = 2; i < 8; i++) {
            due.is("person", x.person(1, 1, 1), i);
        }
        due.is("status(0)", x.status(0), 8);
        due.refused(Due.BAD, SIX, "person(-1, 0, 0)", y -> y.person(-1, 0, 0));
        due.refused(Due.BAD, SIX, "person(6, 0, 0)", y -> y.person(6, 0, 0));
        due.refused(Due.BAD, SIX, "person(0, -1, 0)", y -> y.person(0, -1, 0));
        due.refused(Due.BAD, SIX, "person(0, 14, 0)", y -> y.person(0, 14, 0));
        due.refused(Due.BAD, SIX, "person(0, 0, -1)", y -> y.person(0, 0, -1));
        due.refused(Due.BAD, SIX, "person(0, 0, 13)", y -> y.person(0, 0, 13));
        due.refused(Due.FULL, CalendarTest::eight, "person(0, 0, 0)", y -> y.person(0, 0, 0));
        due.refused(Due.BAD, CalendarTest::eight, "person(6, 0, 0)", y -> y.person(6, 0, 0));
    }

    private static void free() {
        due.promise(11);
        WhenCanAllSix x = Scene.six();
        due.is("free(1, 0, true)", x.free(1, 0, true), 0);
        due.is("free(1, 0, true)", x.free(1, 0, true), 1);
        due.is("free(1, 8, true)", x.free(1, 8, true), 0);
        due.is("FREE of 1", x.personOf(1, 3), 257);
        due.is("free(1, 0, false)", x.free(1, 0, false), 1);
        due.is("free(1, 0, false)", x.free(1, 0, false), 0);
        due.is("FREE of 1", x.personOf(1, 3), 256);
        due.is("FREE of 0", x.personOf(0, 3), 274);
        due.refused(Due.BAD, SIX, "free(-1, 0, true)", y -> y.free(-1, 0, true));
        due.refused(Due.BAD, SIX, "free(6, 0, true)", y -> y.free(6, 0, true));
        due.refused(Due.BAD, SIX, "free(0, -1, true)", y -> y.free(0, -1, true));
        due.refused(Due.BAD, SIX, "free(0, 9, true)", y -> y.free(0, 9, true));
    }

    private static void ask() {
        due.promise(12);
        WhenCanAllSix x = Scene.six();
        due.is("ask(0, 5)", x.ask(0, 5), 0);
        due.is("ask(0, 0)", x.ask(0, 0), 5);
        due.is("ask(1, 8)", x.ask(1, 8), 2);
        due.is("ask(1, 1)", x.ask(1, 1), 8);
        due.is("ask(2, 12)", x.ask(2, 12), 1);
        due.is("ask(2, 0)", x.ask(2, 0), 12);
        due.row("status 2 +", i -> x.status(2 + i), 0, 1, 0);
        due.refused(Due.BAD, SIX, "ask(0, 6)", y -> y.ask(0, 6));
        due.refused(Due.BAD, SIX, "ask(0, -1)", y -> y.ask(0, -1));
        due.refused(Due.BAD, Scene::fresh, "ask(0, 0) of nobody", y -> y.ask(0, 0));
        due.refused(Due.BAD, SIX, "ask(1, 0)", y -> y.ask(1, 0));
        due.refused(Due.BAD, SIX, "ask(1, 9)", y -> y.ask(1, 9));
        due.refused(Due.BAD, SIX, "ask(2, -1)", y -> y.ask(2, -1));
        due.refused(Due.BAD, SIX, "ask(2, 13)", y -> y.ask(2, 13));
        due.refused(Due.BAD, SIX, "ask(3, 1)", y -> y.ask(3, 1));
        due.refused(Due.BAD, SIX, "ask(-1, 1)", y -> y.ask(-1, 1));
    }

    private static void out() {
        due.promise(13);
        WhenCanAllSix x = Scene.six();
        due.is("out(5, 99)", x.out(5, 99), 0);
        due.is("out(5, 0)", x.out(5, 0), 99);
        due.is("out(1, 7)", x.out(1, 7), 0);
        due.is("status(6)", x.status(6), 7);
        due.refused(Due.BAD, SIX, "out(-1, 0)", y -> y.out(-1, 0));
        due.refused(Due.BAD, SIX, "out(6, 0)", y -> y.out(6, 0));
        due.refused(Due.BAD, SIX, "out(0, -1)", y -> y.out(0, -1));
        due.refused(Due.BAD, SIX, "out(0, 100)", y -> y.out(0, 100));
    }

    private static WhenCanAllSix fullTape() {
        WhenCanAllSix x = new WhenCanAllSix();
        for (int i = 0; i < 250; i++) {
            x.feed(i);
        }
        return x;
    }

    private static void feed() {
        due.promise(14);
        WhenCanAllSix x = new WhenCanAllSix();
        due.is("feed(0)", x.feed(0), 1);
        due.is("feed(255)", x.feed(255), 2);
        due.is("status(7)", x.status(7), 2);
        WhenCanAllSix y = new WhenCanAllSix();
        for (int i = 1; i <= 250; i++) {
            due.is("feed(32)", y.feed(32), i);
        }
        due.refused(Due.BAD, SIX, "feed(-1)", z -> z.feed(-1));
        due.refused(Due.BAD, SIX, "feed(256)", z -> z.feed(256));
        due.refused(Due.FULL, CalendarTest::fullTape, "feed(32)", z -> z.feed(32));
        due.refused(Due.BAD, CalendarTest::fullTape, "feed(256)", z -> z.feed(256));
    }

    private static void wipe() {
        due.promise(15);
        WhenCanAllSix x = fullTape();
        due.is("wipe", x.wipe(), 250);
        due.is("wipe", x.wipe(), 0);
        due.is("feed", x.feed('d'), 1);
        due.is("calendar", x.calendar(), -20);
    }

    private static void calendarRead() {
        due.promise(16);
        WhenCanAllSix x = new WhenCanAllSix();
        String text = "days 9;person 0 0 9; person 5 13 12 ;free 0 8;free 1 0;busy 0 8;host 1;least 8;lose 12;out 0 99";
        due.is("calendar", Scene.read(x, text), 10);
        due.row("status", x::status, 2, 9, 1, 8, 12, 0, 99, 0, 1, 0);
        due.row("personOf(0, i)", i -> x.personOf(0, i), 0, 0, 9, 0, 99);
        due.row("personOf(1, i)", i -> x.personOf(1, i), 5, 13, 12, 1, 0);
        due.is("blanks that aren't needed", Scene.readNew("days5;person0 0 0;free0 4;out0 07"), 4);
        due.is("blanks all over", Scene.readNew("   days   5  ;  least   1   "), 2);
        due.is("two digits", Scene.readNew("days 09;least 08;lose 00"), 3);
        due.is("the least numbers", Scene.readNew("days 1;person 0 0 0;free 0 0;host 0;least 1;lose 0;out 0 0"), 7);
        due.is("the greatest numbers", Scene.readNew("days 14;person 5 13 12;free 0 13;host 0;least 8;lose 12;out 0 99"), 7);
        WhenCanAllSix y = new WhenCanAllSix();
        due.is("fewer DAYS, then more", Scene.read(y, "person 2 0 0;free 0 10;free 0 1;days 3;days 11"), 5);
        due.is("FREE of 0", y.personOf(0, 3), 2);
        StringBuilder long250 = new StringBuilder("days 7;lose 3");
        while (long250.length() < 250) {
            long250.append(' ');
        }
        due.is("a TAPE of 250", Scene.readNew(long250.toString()), 2);
    }

    private static void calendarAddsToWhatThereIs() {
        WhenCanAllSix x = Scene.six();
        due.is("calendar", Scene.read(x, "person 1 2 3;free 6 8;busy 0 8;out 5 4;host 6"), 5);
        due.is("status(0)", x.status(0), 7);
        due.row("personOf(6, i)", i -> x.personOf(6, i), 1, 2, 3, 256, 0);
        due.is("FREE of 0", x.personOf(0, 3), 18);
        due.is("OUT of 5", x.personOf(5, 4), 4);
        due.is("HOST", x.status(2), 6);
    }

    /** The text is no CALENDAR for a new object: the FAULT is there. */
    private static void fault(int place, String text) {
        due.is("calendar of '" + text + "'", Scene.readNew(text), -20 - place);
    }

    private static void calendarFaults() {
        fault(0, "");
        fault(3, "   ");
        fault(4, "days");
        fault(5, "days ");
        fault(7, "days 9;");
        fault(9, "days 9;  ");
        fault(8, "person 0");
        fault(11, "person 0 00");
        fault(0, ";");
        fault(0, "9");
        fault(7, "days 9;;");
        fault(7, "days 9 9");
        fault(7, "days 9 least 1");
        fault(5, "days x");
        fault(5, "days ;");
        fault(0, "dayz 9");
        fault(0, "day 9");
        fault(0, "dayss 9");
        fault(0, "bays 9");
        fault(0, "Days 9");
        fault(0, "dAys 9");
        fault(1, " {");
        fault(0, "`");
        fault(5, "days :");
        fault(5, "days /");
        fault(6, "days 9A");
        fault(0, "\u00e9");
        fault(0, "\ndays 9");
        fault(5, "days 0");
        fault(5, "days 15");
        fault(5, "days 007");
        fault(5, "days 123456789012345678901234567890");
        fault(7, "person 6 0 0");
        fault(9, "person 0 14 0");
        fault(11, "person 0 0 13");
        fault(7, "person 000 0 0");
        fault(5, "free 0 0");
        fault(18, "person 0 0 0;free 1 0");
        fault(20, "person 0 0 0;free 0 11");
        fault(20, "person 0 0 0;busy 0 11");
        fault(18, "person 0 0 0;busy 1 0");
        fault(25, "person 0 0 0;days 3;free 1 3");
        fault(27, "person 0 0 0;days 3;free 0 3");
        fault(5, "host 0");
        fault(18, "person 0 0 0;host 1");
        fault(6, "least 0");
        fault(6, "least 9");
        fault(5, "lose 13");
        fault(4, "out 0 0");
        fault(19, "person 0 0 0;out 0 100");
        fault(13, "person 0 0 0;seed 1");
        due.is("the last that there is room for", Scene.read(eight(), "out 7 1"), 1);
        due.is("no room: its word", Scene.read(eight(), "days 3; person 0 0 0"), -28);
        due.is("a ninth in the text", Scene.read(Scene.six(), "person 0 0 0;person 0 0 0;person 0 0 0"), -46);
    }

    private static void calendarOrNothing() {
        WhenCanAllSix x = Scene.six();
        Scene.feed(x, "days 3;person 0 0 0;host 6;least 5;lose 5;out 0 5;busy 0 1;days 0");
        String before = Look.at(x);
        due.is("calendar", x.calendar(), -20 - 64);
        due.is("THE TAPE's size", x.status(7), 0);
        due.is("BAD", x.status(12), 1);
        due.is("the other REFUSALS", x.status(13) + x.status(14) + x.status(15) + x.status(16), 0);
        due.isTrue("all as it was but THE TAPE", Look.at(x).equals(before.replaceFirst(" 65 ", " 0 ")));
        due.is("calendar again: the empty TAPE", x.calendar(), -20);
        due.is("BAD", x.status(12), 2);
        due.is("calendar, then right", Scene.read(x, "days 3"), 1);
        due.is("BAD", x.status(12), 2);
    }

    private static void personOf() {
        due.promise(17);
        WhenCanAllSix x = Scene.six();
        x.out(2, 31);
        due.row("personOf(2, i)", i -> x.personOf(2, i), 2, 2, 7, 18, 31);
        due.row("personOf(5, i)", i -> x.personOf(5, i), 5, 4, 10, 16, 0);
        due.refused(Due.BAD, SIX, "personOf(-1, 0)", y -> y.personOf(-1, 0));
        due.refused(Due.BAD, SIX, "personOf(6, 0)", y -> y.personOf(6, 0));
        due.refused(Due.BAD, SIX, "personOf(0, -1)", y -> y.personOf(0, -1));
        due.refused(Due.BAD, SIX, "personOf(0, 5)", y -> y.personOf(0, 5));
    }
}
