import java.util.function.Supplier;

/** Each sentence on THE TAPE and the CALENDAR read from it (promises 14 to 16), held at its edges. */
public final class EdgesOfTapeTest {
    private static final Due due = new Due("EdgesOfTapeTest");
    private static final Supplier<WhenCanAllSix> RICH = () -> {
        WhenCanAllSix x = Scene.rich();
        x.wipe();
        return x;
    };

    public static void main(String[] args) {
        feed();
        feedRefused();
        wipe();
        bytesOfTheTape();
        tokensAsLongAsCanBe();
        blanksBetween();
        howManyStatements();
        statementsWithSignsBetween();
        daysStatement();
        personStatement();
        freeStatement();
        busyStatement();
        hostStatement();
        leastStatement();
        loseStatement();
        outStatement();
        allOrNothing();
        firstTokenThatCannotStand();
        numbersThatMayNotBe();
        noRoom();
        bytesThatBeginNone();
        endsTooEarly();
        calendar();
        tapeIsEmptyThen();
        due.end();
    }

    private static void reads(int statements, Supplier<WhenCanAllSix> begin, String text) {
        due.is("calendar of '" + text + "'", Scene.read(begin.get(), text), statements);
    }

    private static void reads(int statements, String text) {
        reads(statements, Scene::fresh, text);
    }

    /** The FAULT of the text is at this place; nothing changes but how many REFUSALS there were. */
    private static void fault(int place, Supplier<WhenCanAllSix> begin, String text) {
        WhenCanAllSix x = begin.get();
        String call = "calendar of '" + text + "'";
        due.is(call, Scene.read(x, text), -20 - place);
        due.asItWasBut(Due.BAD, call, x, begin.get());
    }

    private static void fault(int place, String text) {
        fault(place, Scene::fresh, text);
    }

    private static WhenCanAllSix fed(int bytes) {
        WhenCanAllSix x = new WhenCanAllSix();
        for (int i = 0; i < bytes; i++) {
            x.feed("days 3".charAt(Math.min(i, 5)));
        }
        return x;
    }

    private static void feed() {
        due.sentence(14, "THE TAPE gets one byte (0 to 255) behind it: its size.");
        WhenCanAllSix x = new WhenCanAllSix();
        due.is("feed(0), the first", x.feed(0), 1);
        due.is("feed(255)", x.feed(255), 2);
        for (int size = 3; size <= 250; size++) {
            due.is("feed(32)", x.feed(32), size);
        }
        due.is("feed(32), beyond 250", x.feed(32), Due.FULL);
        due.is("status(7)", x.status(7), 250);
        due.is("each byte is behind those ahead", Scene.readNew("lose 10"), 1);
    }

    private static void feedRefused() {
        due.sentence(14, "BAD; FULL.");
        due.limits(0, 255, Scene::rich, "feed(v)", (x, v) -> x.feed(v));
        due.limits(0, 255, () -> fed(249), "feed(v), the last that there is room for", (x, v) -> x.feed(v));
        due.refused(Due.FULL, () -> fed(250), "feed(0)", x -> x.feed(0));
        due.refused(Due.FULL, () -> fed(250), "feed(255)", x -> x.feed(255));
        due.refused(Due.BAD, () -> fed(250), "feed(256), BAD ahead of FULL", x -> x.feed(256));
        due.refused(Due.BAD, () -> fed(250), "feed(-1), BAD ahead of FULL", x -> x.feed(-1));
    }

    private static void wipe() {
        due.sentence(15, "THE TAPE is empty: its size ahead.");
        WhenCanAllSix x = fed(250);
        due.is("wipe of the full TAPE", x.wipe(), 250);
        due.is("status(7)", x.status(7), 0);
        due.is("wipe of the empty TAPE", x.wipe(), 0);
        due.is("feed, there is room again", x.feed('l'), 1);
        due.is("wipe of one byte", x.wipe(), 1);
        due.is("calendar, nothing is left of what was", x.calendar(), -20);
        due.is("DAYS", x.status(1), 11);
        due.is("REFUSALS: not by wipe", x.status(12), 1);
    }

    private static void bytesOfTheTape() {
        due.sentence(16, "A CALENDAR is read from THE TAPE (bytes, 250 at most).");
        String text = "days 3;lose 5" + " ".repeat(230) + ";host 0";
        due.is("bytes", text.length(), 250);
        reads(3, RICH, text);
        WhenCanAllSix x = new WhenCanAllSix();
        Scene.feed(x, "person 0 0 0;" + " ".repeat(231) + "days 1");
        due.is("feed, a byte beyond", x.feed('2'), Due.FULL);
        due.is("calendar of the first 250", x.calendar(), 2);
        due.is("DAYS", x.status(1), 1);
        fault(249, "days 3;" + " ".repeat(242) + ";");
        fault(250, "days 3;" + " ".repeat(243));
    }

    private static void tokensAsLongAsCanBe() {
        due.sentence(16, "TOKENS, each as long as can be: WORDS (a .. z), NUMBERS (digits), the SIGN ; "
            + "- blanks (32) may stand anywhere between.");
        reads(4, "days5;person0 0 0;free0 4;out0 07");
        reads(1, "days10");
        fault(0, "daysdays 5");
        fault(0, "daysa 5");
        fault(0, "daysz 5");
        fault(0, "zdays 5");
        fault(0, "adays 5");
        fault(0, "lea st 5");
        fault(0, "day s 5");
        fault(4, "days`5");
        fault(4, "days{5");
        fault(4, "daysA5");
        fault(4, "daysZ5");
        fault(7, "days 1 4");
        fault(6, "days 9a");
        fault(6, "days 9days 9");
        fault(6, "days 9/");
        fault(6, "days 9:");
        fault(7, "lose 10<");
        fault(6, "days 9=");
        fault(8, "person 0");
        fault(7, "person 000");
    }

    private static void blanksBetween() {
        due.sentence(16, "- blanks (32) may stand anywhere between.");
        reads(2, "   days   5   ;   lose   1   ");
        reads(4, "person    0 0  0;free 0   10;out   0  99  ;  host 0");
        reads(2, "days 5;lose 1");
        reads(1, " days 5");
        reads(1, "days 5 ");
        for (int sign : new int[] {0, 9, 10, 13, 31, 33, 127, 128, 160, 255}) {
            fault(4, "days" + (char) sign + "5");
            fault(0, (char) sign + "days 5");
            fault(6, "days 5" + (char) sign);
        }
    }

    private static void howManyStatements() {
        due.sentence(16, "STATEMENTS, one or more, with ; between:");
        reads(1, "lose 1");
        reads(2, "lose 1;lose 1");
        reads(41, "lose0" + ";lose0".repeat(40));
        fault(0, "");
        fault(5, "     ");
        fault(0, ";");
        fault(2, "  ;  ");
    }

    private static void statementsWithSignsBetween() {
        due.sentence(16, "STATEMENTS, one or more, with ; between:");
        fault(0, ";days 5");
        fault(7, "days 5;;days 5");
        fault(8, "days 5; ; days 5");
        fault(7, "days 5;");
        fault(7, "days 5 days 5");
        fault(7, "days 5 host 0");
        fault(6, "days 5,days 5");
    }

    private static void daysStatement() {
        due.sentence(16, "days N (no DAY beyond is FREE then);");
        reads(1, "days 1");
        reads(1, "days 14");
        reads(1, "days 01");
        fault(5, "days 0");
        fault(5, "days 15");
        fault(5, "days 99");
        fault(5, RICH, "days 00");
        WhenCanAllSix x = Scene.allFree(2, 14);
        due.is("calendar", Scene.read(x, "days 13"), 1);
        due.row("FREE of", i -> x.personOf(i, 3), 8191, 8191);
        due.is("calendar, fewer DAYS and more again", Scene.read(x, "days 2;days 14"), 2);
        due.row("FREE of", i -> x.personOf(i, 3), 3, 3);
        due.is("DAYS", x.status(1), 14);
        WhenCanAllSix y = new WhenCanAllSix();
        due.is("calendar, of one who comes by it", Scene.read(y, "person 0 0 0;free 0 10;free 0 0;days 10;days 11"), 5);
        due.is("FREE of 0", y.personOf(0, 3), 1);
        fault(27, "person 0 0 0;days 3;free 0 3");
        reads(3, "person 0 0 0;days 14;free 0 13");
    }

    private static void personStatement() {
        due.sentence(16, "person K A L;");
        reads(1, "person 0 0 0");
        reads(1, "person 5 13 12");
        reads(1, "person 05 13 12");
        fault(7, "person 6 0 0");
        fault(9, "person 0 14 0");
        fault(11, "person 0 0 13");
        fault(7, "person 6 14 13");
        fault(9, "person 0 14 13");
        WhenCanAllSix x = Scene.rich();
        x.wipe();
        due.is("calendar", Scene.read(x, "person 5 13 12;person 1 0 0"), 2);
        due.row("personOf(6, i)", i -> x.personOf(6, i), 5, 13, 12, 0, 0);
        due.row("personOf(7, i)", i -> x.personOf(7, i), 1, 0, 0, 0, 0);
        due.row("personOf(5, i)", i -> x.personOf(5, i), 5, 4, 10, 16, 0);
    }

    private static void freeStatement() {
        due.sentence(16, "free X D;");
        reads(1, RICH, "free 0 0");
        reads(1, RICH, "free 5 8");
        reads(1, Scene::eight, "free 7 13");
        fault(5, RICH, "free 6 0");
        fault(7, RICH, "free 5 9");
        fault(5, Scene::eight, "free 8 13");
        fault(7, Scene::eight, "free 7 14");
        fault(5, "free 0 0");
        WhenCanAllSix x = Scene.eight();
        due.is("calendar", Scene.read(x, "free 7 0;free 7 13;free 7 13;free 0 1"), 4);
        due.row("FREE of", i -> x.personOf(i, 3), 2, 0, 0, 0, 0, 0, 0, 8193);
    }

    private static void busyStatement() {
        due.sentence(16, "busy X D;");
        reads(1, RICH, "busy 0 0");
        reads(1, RICH, "busy 5 8");
        reads(1, Scene::eight, "busy 7 13");
        fault(5, RICH, "busy 6 0");
        fault(7, RICH, "busy 5 9");
        fault(5, "busy 0 0");
        WhenCanAllSix x = Scene.allFree(2, 14);
        due.is("calendar", Scene.read(x, "busy 1 0;busy 1 13;busy 1 13;free 1 0"), 4);
        due.row("FREE of", i -> x.personOf(i, 3), 16383, 8191);
    }

    private static void hostStatement() {
        due.sentence(16, "host X;");
        reads(1, RICH, "host 0");
        fault(5, RICH, "host 6");
        fault(5, "host 0");
        WhenCanAllSix x = Scene.eight();
        due.is("calendar", Scene.read(x, "host 7"), 1);
        due.is("HOST", x.status(2), 7);
        fault(5, Scene::eight, "host 8");
        WhenCanAllSix y = new WhenCanAllSix();
        due.is("calendar, one who comes by it", Scene.read(y, "person 0 0 0;person 0 0 0;host 1"), 3);
        due.is("HOST", y.status(2), 1);
        fault(5, "host 0;person 0 0 0");
    }

    private static void leastStatement() {
        due.sentence(16, "least N;");
        reads(1, RICH, "least 1");
        fault(6, RICH, "least 0");
        fault(6, RICH, "least 9");
        fault(6, RICH, "least 99");
        WhenCanAllSix x = new WhenCanAllSix();
        due.is("calendar", Scene.read(x, "least 1;least 8"), 2);
        due.is("LEAST", x.status(3), 8);
    }

    private static void loseStatement() {
        due.sentence(16, "lose N;");
        reads(1, RICH, "lose 0");
        fault(5, RICH, "lose 13");
        fault(5, RICH, "lose 99");
        WhenCanAllSix x = new WhenCanAllSix();
        due.is("calendar", Scene.read(x, "lose 0;lose 12"), 2);
        due.is("LOSE", x.status(4), 12);
    }

    private static void outStatement() {
        due.sentence(16, "out X N.");
        reads(1, RICH, "out 0 0");
        reads(1, RICH, "out 5 99");
        fault(4, RICH, "out 6 0");
        fault(6, RICH, "out 5 100");
        fault(4, "out 0 0");
        WhenCanAllSix x = Scene.eight();
        due.is("calendar", Scene.read(x, "out 7 99;out 0 1"), 2);
        due.row("OUT of", i -> x.personOf(i, 4), 1, 0, 0, 0, 0, 0, 0, 99);
    }

    private static void allOrNothing() {
        due.sentence(16, "All comes to what there is, or nothing.");
        String right = "days 14;person 2 3 4;free 6 13;busy 0 1;host 6;least 8;lose 0;out 0 99";
        WhenCanAllSix x = RICH.get();
        due.is("calendar", Scene.read(x, right), 8);
        due.row("status", x::status, 7, 14, 6, 8, 0, 1, 112, 0, 77, 3);
        due.row("personOf(0, i)", i -> x.personOf(0, i), 0, 0, 9, 272, 99);
        due.row("personOf(6, i)", i -> x.personOf(6, i), 2, 3, 4, 8192, 0);
        due.is("calendar again, to what there is now", Scene.read(x, "person 1 0 0;host 7"), 2);
        due.is("status(0)", x.status(0), 8);
        fault(right.length() + 6, RICH, right + ";days 0");
        fault(right.length() + 1, RICH, right + ";");
        fault(right.length(), RICH, right + "!");
        fault(right.length() + 7, RICH, right + ";person");
        for (String first : right.split(";")) {
            String text = first.replace("free 6 13", "free 5 8").replace("host 6", "host 4") + ";host";
            fault(text.length(), RICH, text);
        }
    }

    private static void firstTokenThatCannotStand() {
        due.sentence(16, "The FAULT: the place of the first byte of the first TOKEN that can't stand there");
        for (String word : new String[] {"days", "person", "free", "busy", "host", "least", "lose", "out"}) {
            for (int i = 0; i < word.length(); i++) {
                fault(0, RICH, word.substring(0, i) + "k" + word.substring(i + 1) + " 1 1 1");
                fault(0, RICH, word.substring(0, i) + word.substring(i + 1) + " 1 1 1");
            }
            fault(0, RICH, word + "s 1 1 1");
        }
        fault(0, "9");
        fault(0, "dine 1");
        fault(0, "day 1");
        fault(0, "dayss 1");
        fault(2, "  dayz 1");
        fault(0, "Days 1");
        fault(5, "days days 1");
        fault(5, "days ;");
        fault(9, "person 0 free");
        fault(9, "person 0 ;");
        fault(11, "person 0 0 ;");
        fault(13, "person 0 0 0 0");
        fault(7, RICH, "free 0 x");
        fault(9, RICH, "free 0 0 0");
        fault(7, RICH, "host 0 0");
        fault(8, RICH, "least 1 1");
        fault(7, RICH, "lose 1 least 0");
        fault(8, RICH, "out 0 0 days 0");
        fault(13, "days 1; lose x; days 0");
        fault(14, "days 1; lose  x");
    }

    private static void numbersThatMayNotBe() {
        due.sentence(16, "(also a NUMBER that may not be, or has more than 2 digits;");
        fault(5, "days 0");
        fault(5, "days 001");
        fault(5, "days 010");
        fault(5, "days 100");
        fault(5, "days 4294967297");
        fault(5, "days " + "1".repeat(245));
        fault(7, "person 000 0 0");
        fault(9, "person 0 000 0");
        fault(11, "person 0 0 000");
        fault(5, RICH, "free 000 0");
        fault(7, RICH, "busy 0 000");
        fault(5, RICH, "host 000");
        fault(6, RICH, "least 001");
        fault(5, RICH, "lose 000");
        fault(6, RICH, "out 0 000");
        reads(5, RICH, "days 09;free 00 00;least 01;lose 00;out 00 00");
    }

    private static void noRoom() {
        due.sentence(16, "what there is no room for: its word;");
        fault(0, Scene::eight, "person 0 0 0");
        fault(10, Scene::eight, "days 3;   person 0 0 0;days 4");
        fault(26, RICH, "person 0 0 0;person 1 1 1;person 2 2 2");
        reads(2, RICH, "person 0 0 0;person 1 1 1");
        fault(104, "person 0 0 0;".repeat(8) + "person 0 0 0");
        reads(8, "person 0 0 0" + ";person 0 0 0".repeat(7));
    }

    private static void bytesThatBeginNone() {
        due.sentence(16, "a byte that begins none);");
        for (char sign = 0; sign <= 255; sign++) {
            String behind = "lose 1" + sign;
            if (sign == ' ' || sign >= '0' && sign <= '2') {
                reads(1, behind);
            } else if (sign >= '3' && sign <= '9') {
                fault(5, behind);
            } else {
                fault(sign == ';' ? 7 : 6, behind);
            }
            if (sign == ' ') {
                reads(1, sign + "lose 1");
            } else {
                fault(0, sign + "lose 1");
            }
        }
    }

    private static void endsTooEarly() {
        due.sentence(16, "THE TAPE's size, if it ends too early.");
        for (String text : new String[] {"days", "days ", "person", "person 0", "person 0 0", "person 0 0   ", "free",
                "free 0", "busy", "busy 0 ", "host", "least", "lose", "out", "out 0", "days 9;", "days 9;  ", " ", ""}) {
            fault(text.length(), RICH, text);
        }
    }

    private static void calendar() {
        due.sentence(16, "THE TAPE is a CALENDAR: how many STATEMENTS; -20 less the FAULT (that is refused, too: BAD).");
        WhenCanAllSix x = Scene.six();
        due.is("calendar", Scene.read(x, "days 9;days 9"), 2);
        due.is("BAD", x.status(12), 0);
        due.is("calendar, FAULT 0", Scene.read(x, "x"), -20);
        due.is("BAD", x.status(12), 1);
        due.is("calendar, FAULT 250", Scene.read(x, " ".repeat(250)), -270);
        due.row("status 12 +", i -> x.status(12 + i), 2, 0, 0, 0, 0);
    }

    private static void tapeIsEmptyThen() {
        due.sentence(16, "THE TAPE is empty then, either way.");
        WhenCanAllSix x = Scene.six();
        due.is("calendar", Scene.read(x, "days 3;lose 3"), 2);
        due.is("status(7)", x.status(7), 0);
        due.is("feed", x.feed('l'), 1);
        due.is("calendar", x.calendar(), -20);
        due.is("status(7)", x.status(7), 0);
        due.is("calendar", Scene.read(x, "lose 4"), 1);
        due.is("LOSE", x.status(4), 4);
    }
}
