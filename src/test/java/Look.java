/** All that can be seen of an object by calls that refuse nothing and change nothing. */
final class Look {
    private Look() {
    }

    static String at(WhenCanAllSix x) {
        StringBuilder seen = new StringBuilder();
        for (int what = 0; what <= 9; what++) {
            seen.append(x.status(what)).append(' ');
        }
        for (int person = 0; person < x.status(0); person++) {
            for (int what = 0; what <= 4; what++) {
                seen.append(x.personOf(person, what)).append(' ');
            }
        }
        for (int s = 0; s < 8; s++) {
            int held = x.holds(s);
            seen.append(held).append(' ');
            for (int i = 0; i < 12 && held >= 0 && held <= 4; i++) {
                seen.append(x.element(s, i)).append(' ');
            }
        }
        return seen.toString();
    }
}
