/** All that can be seen of an object by calls that refuse nothing and change nothing. */
final class Look {
    // As many elements as there can be DAYS: what these tests put into a ROW; and the last there can be.
    private static final int FIRST_ELEMENTS = 14;
    private static final int LAST_ELEMENT = 39;

    /** Answers the calls status, personOf, holds and element. */
    interface Answers {
        long to(String call, long... v);
    }

    private Look() {
    }

    static String at(WhenCanAllSix x) {
        return at(answersOf(x));
    }

    static String at(Answers answers) {
        return atPeople(answers) + atShelves(answers);
    }

    static String atPeople(WhenCanAllSix x) {
        return atPeople(answersOf(x));
    }

    private static Answers answersOf(WhenCanAllSix x) {
        return (call, v) -> switch (call) {
            case "status" -> x.status((int) v[0]);
            case "personOf" -> x.personOf((int) v[0], (int) v[1]);
            case "holds" -> x.holds((int) v[0]);
            default -> x.element((int) v[0], (int) v[1]);
        };
    }

    private static String atPeople(Answers answers) {
        StringBuilder seen = new StringBuilder();
        for (int what = 0; what <= 9; what++) {
            seen.append(answers.to("status", what)).append(' ');
        }
        long people = answers.to("status", 0);
        for (int person = 0; person < people; person++) {
            for (int what = 0; what <= 4; what++) {
                seen.append(answers.to("personOf", person, what)).append(' ');
            }
        }
        return seen.toString();
    }

    private static String atShelves(Answers answers) {
        StringBuilder seen = new StringBuilder();
        for (int s = 0; s < 8; s++) {
            long held = answers.to("holds", s);
            seen.append(held).append(' ');
            for (int i = 0; i < FIRST_ELEMENTS && held >= 0 && held <= 4; i++) {
                seen.append(answers.to("element", s, i)).append(' ');
            }
            seen.append(answers.to("element", s, LAST_ELEMENT)).append(' ');
        }
        return seen.toString();
    }
}
