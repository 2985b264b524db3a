/** Objects to begin a test with. */
final class Scene {
    private Scene() {
    }

    static WhenCanAllSix fresh() {
        return new WhenCanAllSix();
    }

    /** Feeds THE TAPE and leaves it unread. */
    static void feed(WhenCanAllSix x, String text) {
        for (int i = 0; i < text.length(); i++) {
            x.feed(text.charAt(i));
        }
    }

    static int read(WhenCanAllSix x, String text) {
        feed(x, text);
        return x.calendar();
    }

    static int readNew(String text) {
        return read(new WhenCanAllSix(), text);
    }

    static void free(WhenCanAllSix x, int person, int... days) {
        for (int day : days) {
            x.free(person, day, true);
        }
    }

    static void row(WhenCanAllSix x, int s, int sort, long... elements) {
        x.row(s, sort, elements.length);
        for (int i = 0; i < elements.length; i++) {
            x.set(s, i, elements[i]);
        }
    }

    static WhenCanAllSix persons(int days, int[]... evenings) {
        WhenCanAllSix x = new WhenCanAllSix();
        x.days(days);
        for (int[] free : evenings) {
            free(x, x.person(0, 0, 6), free);
        }
        return x;
    }

    static int[] on(int... days) {
        return days;
    }

    /**
     * One of each KIND on 9 DAYS. Their TICKS, day by day, 0 to 8:
     * PERSON 020020002, POLITE 222222222, WAITING 020020000, HALF 111121111, CHOOSY 000020000, HOPING 000020000;
     * COUNTS 3, 7, 3, 3, 12, 3, 3, 3, 5; THERE on 1: 0 2 4, on 4: all but 1, on 8: 0.
     */
    static WhenCanAllSix six() {
        WhenCanAllSix x = new WhenCanAllSix();
        becomeSix(x);
        return x;
    }

    private static void becomeSix(WhenCanAllSix x) {
        x.days(9);
        x.person(0, 0, 9);
        x.person(1, 0, 8);
        x.person(2, 2, 7);
        x.person(3, 0, 6);
        x.person(4, 0, 5);
        x.person(5, 4, 10);
        free(x, 0, 1, 4, 8);
        free(x, 2, 1, 4);
        free(x, 3, 4);
        free(x, 4, 1, 4);
        free(x, 5, 4);
    }

    /** Six with a ROW of bytes in SHELF 0, one of shorts in 1, person 3 in SHELF 2, NOTHING in the others. */
    static WhenCanAllSix sixWithShelves() {
        WhenCanAllSix x = six();
        row(x, 0, 0, 1, 4, 5, 6, 7, 8, 9, 10, 11, 12);
        row(x, 1, 1, 3, 1, 4);
        x.show(2, 3);
        return x;
    }

    /**
     * Six with something in all that there is: an image of nobody on 12 DAYS, HOST 5, LOSE 7, a DINNER on 4, OUT 12
     * of person 2, SEED 77, "days 3" on THE TAPE; a ROW of 10 bytes in SHELF 0, of 3 shorts in 1, person 3 in 2.
     */
    static WhenCanAllSix rich() {
        WhenCanAllSix x = new WhenCanAllSix();
        x.days(12);
        x.seed(5);
        x.image();
        becomeSix(x);
        x.ask(0, 5);
        x.ask(2, 7);
        x.dine(4);
        x.out(2, 12);
        x.seed(77);
        feed(x, "days 3");
        row(x, 0, 0, 1, 4, 5, 6, 7, 8, 9, 10, 11, 12);
        row(x, 1, 1, 3, 1, 4);
        x.show(2, 3);
        return x;
    }

    /** Eight PEOPLE, the most there can be, of KINDS 0 to 5, 0 and 1, on 14 DAYS, the most there can be. */
    static WhenCanAllSix eight() {
        WhenCanAllSix x = new WhenCanAllSix();
        x.days(14);
        for (int p = 0; p < 8; p++) {
            x.person(p % 6, p, 12 - p);
        }
        return x;
    }

    /** As many DAYS, and nobody. */
    static WhenCanAllSix nobody(int days) {
        WhenCanAllSix x = new WhenCanAllSix();
        x.days(days);
        return x;
    }

    /** As many PEOPLE, PERSONS of LIKELY 6, on as many DAYS, all of them FREE on all DAYS. */
    static WhenCanAllSix allFree(int people, int days) {
        WhenCanAllSix x = new WhenCanAllSix();
        x.days(days);
        for (int p = 0; p < people; p++) {
            x.person(0, 0, 6);
            for (int day = 0; day < days; day++) {
                x.free(p, day, true);
            }
        }
        return x;
    }
}
