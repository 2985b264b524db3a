import java.math.BigInteger;
import java.util.ArrayList;
import java.util.Arrays;
import java.util.Comparator;
import java.util.List;
import java.util.TreeSet;
import java.util.function.IntPredicate;
import java.util.regex.Matcher;
import java.util.regex.Pattern;
import java.util.stream.IntStream;

/** A second reading of the document, as slow and plain as can be: ReadTwiceTest compares the class with it. */
final class Plain {
    private static final int BAD = -2;
    private static final int OTHER = -3;
    private static final int NOTHING = -4;
    private static final int STUCK = -5;
    private static final int FULL = -6;

    private static final class Refused extends RuntimeException {
        private static final long serialVersionUID = 1;
        final int number;

        Refused(int number) {
            super(null, null, false, false);
            this.number = number;
        }
    }

    private static final class One {
        final int kind;
        final int a;
        final int likely;
        TreeSet<Integer> free = new TreeSet<>();
        int out;

        One(int kind, int a, int likely) {
            this.kind = kind;
            this.a = a;
            this.likely = likely;
        }

        One copy() {
            One other = new One(kind, a, likely);
            other.free = new TreeSet<>(free);
            other.out = out;
            return other;
        }
    }

    private static final class State {
        int days = 11;
        List<One> people = new ArrayList<>();
        int host;
        int least = 2;
        int lose = 1;
        int dinners;
        int seed = 1;

        State copy() {
            State other = new State();
            other.days = days;
            people.forEach(one -> other.people.add(one.copy()));
            other.host = host;
            other.least = least;
            other.lose = lose;
            other.dinners = dinners;
            other.seed = seed;
            return other;
        }
    }

    private State st = new State();
    private State kept;
    private String tape = "";
    private final Object[] shelves = new Object[8];
    private final long[] refusals = new long[5];

    /** The answer of the call by this name; arguments as numbers (a boolean: 1, 0). */
    long call(String name, long... args) {
        try {
            return answer(name, args, Arrays.stream(args).mapToInt(v -> (int) v).toArray());
        } catch (Refused refused) {
            int number = refused.number <= -20 ? BAD : refused.number;
            refusals[-2 - number]++;
            return refused.number;
        }
    }

    private static void need(boolean holds, int number) {
        if (!holds) {
            throw new Refused(number);
        }
    }

    private static boolean in(long v, long least, long most) {
        return least <= v && v <= most;
    }

    private void needDay(int day) {
        need(in(day, 0, st.days - 1), BAD);
    }

    private One needPerson(int p) {
        need(in(p, 0, st.people.size() - 1), BAD);
        return st.people.get(p);
    }

    private void needShelf(int s) {
        need(in(s, 0, 7), BAD);
    }

    // A ROW is told as {SORT, elements..}; one of the PEOPLE as his number.
    private long[] needRow(int s) {
        need(!(shelves[s] instanceof Integer), OTHER);
        need(shelves[s] != null, NOTHING);
        return (long[]) shelves[s];
    }

    private static int bits(int n, IntPredicate is) {
        return IntStream.range(0, n).filter(is).map(i -> 1 << i).sum();
    }

    private int people() {
        return st.people.size();
    }

    private boolean free(int p, int day) {
        return st.people.get(p).free.contains(day);
    }

    private int thereCount(int day) {
        return (int) st.people.stream().filter(one -> one.free.contains(day)).count();
    }

    private int tickAs(int kind, int p, int day) {
        One one = st.people.get(p);
        boolean is = one.free.contains(day);
        int ahead = yesesAhead(p, day);
        if (kind == 1) {
            return 2;
        }
        if (kind == 3) {
            return is ? 2 : 1;
        }
        if (!is) {
            return 0;
        }
        if (kind == 2) {
            return ahead >= one.a ? 2 : 1;
        }
        if (kind == 4) {
            for (int other = 0; other < st.days; other++) {
                int there = yesesAhead(p, other);
                if (there > ahead || there == ahead && other < day) {
                    return 0;
                }
            }
            return 2;
        }
        return kind == 5 && day != one.a ? 0 : 2;
    }

    private int[][] ticked = new int[0][];

    private int yesesAhead(int p, int day) {
        return (int) IntStream.range(0, p).filter(q -> ticked[q][day] == 2).count();
    }

    private int tick(int p, int day) {
        return ticked[p][day];
    }

    private void tickAll() {
        ticked = new int[people()][st.days];
        for (int p = 0; p < people(); p++) {
            for (int day = 0; day < st.days; day++) {
                ticked[p][day] = tickAs(st.people.get(p).kind, p, day);
            }
        }
    }

    private int count(int day, int but) {
        return IntStream.range(0, people()).filter(p -> p != but).map(p -> tick(p, day)).sum();
    }

    private List<Integer> order(int but, IntPredicate is) {
        List<Integer> days = new ArrayList<>(IntStream.range(0, st.days).filter(is).boxed().toList());
        days.sort(Comparator.comparing((Integer day) -> -count(day, but)).thenComparing(day -> day));
        return days;
    }

    private int best() {
        return order(-1, day -> true).get(0);
    }

    private int draw(int n) {
        BigInteger next = BigInteger.valueOf(st.seed).multiply(BigInteger.valueOf(1103515245)).add(BigInteger.valueOf(12345));
        st.seed = next.intValue();
        return ((st.seed >> 16) & 0xFFFF) % n;
    }

    private void dinner(int day) {
        for (One one : st.people) {
            if (!one.free.contains(day)) {
                one.out = Math.min(99, one.out + 1);
            }
        }
        st.dinners++;
    }

    private int fill() {
        int evenings = 0;
        for (One one : st.people) {
            one.free.clear();
            for (int day = 0; day < st.days; day++) {
                if (draw(12) < one.likely) {
                    one.free.add(day);
                    evenings++;
                }
            }
        }
        return evenings;
    }

    private static long odds(int p, int d, int k) {
        long one = 1000000;
        for (int i = 0; i < p; i++) {
            one = one * k / 12;
        }
        long left = 1000000;
        for (int i = 0; i < d; i++) {
            left = left * (1000000 - one) / 1000000;
        }
        return 1000000 - left;
    }

    private long known(int day, int t) {
        if (thereCount(day) < people()) {
            return 0;
        }
        long odds = 1000000;
        for (int i = 0; i < t * people(); i++) {
            odds = odds * (12 - st.lose) / 12;
        }
        return odds;
    }

    private long first(int i) {
        need(in(i, -1, people() - 1), BAD);
        need(people() > 0, STUCK);
        List<Integer> order = new ArrayList<>(IntStream.range(0, people()).boxed().toList());
        order.sort(Comparator.comparing((Integer p) -> st.people.get(p).likely).thenComparing(p -> p));
        if (i >= 0) {
            return order.get(i);
        }
        // How many ways of 12 to the number of PEOPLE end with the n-th being asked.
        int n = people();
        BigInteger together = BigInteger.ZERO;
        BigInteger ways = BigInteger.ONE;
        for (int asked = 1; asked <= n; asked++) {
            int likely = st.people.get(order.get(asked - 1)).likely;
            BigInteger here = asked == n ? ways.multiply(BigInteger.valueOf(12)) : ways.multiply(BigInteger.valueOf(12 - likely));
            together = together.add(here.multiply(BigInteger.valueOf(12).pow(n - asked)).multiply(BigInteger.valueOf(asked)));
            ways = ways.multiply(BigInteger.valueOf(likely));
        }
        return together.multiply(BigInteger.valueOf(1000)).divide(BigInteger.valueOf(12).pow(n)).longValue();
    }

    private List<int[]> rows(int k) {
        List<int[]> rows = new ArrayList<>();
        for (int i = 0; i < st.days; i++) {
            if (k == 1) {
                rows.add(new int[] {i});
            }
            for (int j = i + 1; j < st.days && k > 1; j++) {
                if (k == 2) {
                    rows.add(new int[] {i, j});
                }
                for (int l = j + 1; l < st.days && k > 2; l++) {
                    rows.add(new int[] {i, j, l});
                }
            }
        }
        return rows;
    }

    private int met(int[] row) {
        return (int) IntStream.range(0, people()).filter(p -> Arrays.stream(row).anyMatch(day -> free(p, day))).count();
    }

    private long meeting(int k, int i) {
        need(in(i, -1, k - 1), BAD);
        need(st.days >= k, STUCK);
        int[] best = null;
        for (int[] row : rows(k)) {
            if (best == null || met(row) > met(best)) {
                best = row;
            }
        }
        return i < 0 ? met(best) : best[i];
    }

    private int[] outsAfter(int[] row) {
        return IntStream.range(0, people())
            .map(p -> Math.min(99, st.people.get(p).out + (int) Arrays.stream(row).filter(day -> !free(p, day)).count()))
            .toArray();
    }

    private long fair(int k, int i) {
        need(in(k, 1, 3), BAD);
        need(in(i, -1, k - 1), BAD);
        need(st.days >= k && people() > 0, STUCK);
        int[] best = null;
        for (int[] row : rows(k)) {
            int[] outs = outsAfter(row);
            int greatest = Arrays.stream(outs).max().getAsInt();
            int greatestOfBest = best == null ? 1000 : Arrays.stream(outsAfter(best)).max().getAsInt();
            if (greatest < greatestOfBest
                || greatest == greatestOfBest && Arrays.stream(outs).sum() < Arrays.stream(outsAfter(best)).sum()) {
                best = row;
            }
        }
        return i < 0 ? Arrays.stream(outsAfter(best)).max().getAsInt() : best[i];
    }

    private int sharing(int p) {
        return (int) IntStream.range(0, people())
            .filter(q -> q != p && st.people.get(q).free.stream().anyMatch(day -> free(p, day))).count();
    }

    private int allBut(int but) {
        return bits(st.days, day -> IntStream.range(0, people()).allMatch(p -> p == but || free(p, day)));
    }

    private long most(int p, int k, int m) {
        need(in(p, 0, 20) && in(k, 0, 12) && in(m, 0, 20), BAD);
        long[] parts = new long[22];
        parts[0] = 1000000;
        for (int i = 0; i < p; i++) {
            long[] next = new long[22];
            for (int j = 0; j < 21; j++) {
                next[j] += parts[j] * (12 - k) / 12;
                next[j + 1] += parts[j] * k / 12;
            }
            parts = next;
        }
        return Arrays.stream(parts, m, 22).sum();
    }

    private long[] needTicks(int s, int p) {
        needShelf(s);
        needPerson(p);
        long[] row = needRow(s);
        need(row.length - 1 >= st.days, BAD);
        long[] ticks = Arrays.copyOfRange(row, 1, 1 + st.days);
        need(Arrays.stream(ticks).allMatch(t -> in(t, 0, 2)), STUCK);
        return ticks;
    }

    private long[] needPlan(int s, int n) {
        needShelf(s);
        need(in(n, 0, 40), BAD);
        long[] row = needRow(s);
        need(n <= row.length - 1, BAD);
        return Arrays.copyOfRange(row, 1, 1 + n);
    }

    private int wrong(long[] plan) {
        for (int i = 0; i < plan.length; i++) {
            long day = plan[i];
            long[] ahead = Arrays.copyOf(plan, i);
            if (!in(day, 0, st.days - 1) || Arrays.stream(ahead).anyMatch(d -> d == day)
                || i > 0 && day < plan[i - 1] || thereCount((int) day) < st.least) {
                return i;
            }
        }
        return -1;
    }

    private int[] needRightPlan(int s, int n) {
        long[] plan = needPlan(s, n);
        need(wrong(plan) == -1, STUCK);
        return Arrays.stream(plan).mapToInt(d -> (int) d).toArray();
    }

    private static final Pattern TOKEN = Pattern.compile(" *([a-z]+|[0-9]+|;|\\z|(?s:.))");

    /** The statements of THE TAPE, told to a copy. */
    private long calendar() {
        State before = st;
        String text = tape;
        tape = "";
        st = st.copy();
        try {
            return statements(text);
        } catch (Refused refused) {
            st = before;
            throw refused;
        }
    }

    private long statements(String text) {
        Matcher m = TOKEN.matcher(text);
        for (int n = 1; ; n++) {
            String word = next(m);
            int at = m.start(1);
            List<String> words = List.of("days", "person", "free", "busy", "host", "least", "lose", "out");
            need(words.contains(word) && !(word.equals("person") && people() == 8), -20 - at);
            int most = people() - 1;
            switch (word) {
                case "days" -> {
                    st.days = number(m, 1, 14);
                    st.people.forEach(one -> one.free.removeIf(day -> day >= st.days));
                }
                case "person" -> st.people.add(new One(number(m, 0, 5), number(m, 0, 13), number(m, 0, 12)));
                case "free" -> st.people.get(number(m, 0, most)).free.add(number(m, 0, st.days - 1));
                case "busy" -> st.people.get(number(m, 0, most)).free.remove(number(m, 0, st.days - 1));
                case "host" -> st.host = number(m, 0, most);
                case "least" -> st.least = number(m, 1, 8);
                case "lose" -> st.lose = number(m, 0, 12);
                default -> st.people.get(number(m, 0, most)).out = number(m, 0, 99);
            }
            String sign = next(m);
            if (sign.isEmpty()) {
                return n;
            }
            need(sign.equals(";"), -20 - m.start(1));
        }
    }

    private static String next(Matcher m) {
        return m.find() ? m.group(1) : "";
    }

    private static int number(Matcher m, int least, int most) {
        String token = next(m);
        need(token.matches("[0-9]{1,2}"), -20 - m.start(1));
        need(in(Integer.parseInt(token), least, most), -20 - m.start(1));
        return Integer.parseInt(token);
    }

    private long kept(int sort, long v) {
        return sort == 0 ? (byte) v : sort == 1 ? (short) v : sort == 2 ? (int) v : sort == 3 ? v : v != 0 ? 1 : 0;
    }

    private long copy(int p, int q, int i, int j, int n) {
        needShelf(p);
        needShelf(q);
        need(!(shelves[p] instanceof Integer) && !(shelves[q] instanceof Integer), OTHER);
        if (shelves[p] != null && shelves[q] != null) {
            need(((long[]) shelves[p])[0] == ((long[]) shelves[q])[0], OTHER);
        }
        long[] from = needRow(p).clone();
        long[] to = needRow(q);
        need(i >= 0 && j >= 0 && n >= 0 && (long) i + n < from.length && (long) j + n < to.length, BAD);
        for (int x = 0; x < n; x++) {
            to[1 + j + x] = from[1 + i + x];
        }
        return n;
    }

    private long says(int s, int kind) {
        needShelf(s);
        need(in(kind, 0, 5), BAD);
        need(!(shelves[s] instanceof long[]), OTHER);
        need(shelves[s] != null, NOTHING);
        One one = st.people.get((Integer) shelves[s]);
        int[] above = {-1, 0, 0, 1, 2, 0};
        int k = one.kind;
        while (k != -1 && k != kind) {
            k = above[k];
        }
        need(k == kind, OTHER);
        return kind == 0 ? one.free.size() : kind == 1 || kind == 3 ? one.likely : one.a;
    }

    private long personOf(One one, int what) {
        need(in(what, 0, 4), BAD);
        return new long[] {one.kind, one.a, one.likely, one.free.stream().mapToInt(d -> 1 << d).sum(), one.out}[what];
    }

    private long status(int what) {
        if (what >= 12 && what <= 16) {
            return refusals[what - 12];
        }
        long used = Arrays.stream(shelves).filter(held -> held != null).count();
        long outs = st.people.stream().mapToInt(one -> one.out).sum();
        long[] told = {people(), st.days, st.host, st.least, st.lose, st.dinners, outs, tape.length(), st.seed, used};
        return in(what, 0, 9) ? told[what] : -1;
    }

    private long answer(String name, long[] l, int[] v) {
        tickAll();
        switch (name) {
            case "row": {
                needShelf(v[0]);
                need(in(v[1], 0, 4) && in(v[2], 0, 40), BAD);
                long[] row = new long[1 + v[2]];
                row[0] = v[1];
                shelves[v[0]] = row;
                return 1;
            }
            case "set": {
                needShelf(v[0]);
                long[] row = needRow(v[0]);
                need(in(v[1], 0, row.length - 2), BAD);
                row[1 + v[1]] = kept((int) row[0], l[2]);
                return 1;
            }
            case "copy": return copy(v[0], v[1], v[2], v[3], v[4]);
            case "element": {
                boolean is = in(v[0], 0, 7) && shelves[v[0]] instanceof long[];
                return is && in(v[1], 0, ((long[]) shelves[v[0]]).length - 2) ? ((long[]) shelves[v[0]])[1 + v[1]] : 0;
            }
            case "holds": {
                Object held = in(v[0], 0, 7) ? shelves[v[0]] : null;
                return held == null ? -1 : held instanceof Integer p ? 10 + p : ((long[]) held)[0];
            }
            case "show": {
                needShelf(v[0]);
                need(in(v[1], -1, people() - 1), BAD);
                shelves[v[0]] = v[1] == -1 ? null : Integer.valueOf(v[1]);
                return 1;
            }
            case "says": return says(v[0], v[1]);
            case "days": {
                need(in(v[0], 1, 14), BAD);
                int was = st.days;
                st.days = v[0];
                st.people.forEach(one -> one.free.removeIf(day -> day >= st.days));
                return was;
            }
            case "person": {
                need(in(v[0], 0, 5) && in(v[1], 0, 13) && in(v[2], 0, 12), BAD);
                need(people() < 8, FULL);
                st.people.add(new One(v[0], v[1], v[2]));
                return people() - 1;
            }
            case "free": {
                One one = needPerson(v[0]);
                needDay(v[1]);
                return (v[2] != 0 ? !one.free.add(v[1]) : one.free.remove(v[1])) ? 1 : 0;
            }
            case "ask": return ask(v[0], v[1]);
            case "out": {
                One one = needPerson(v[0]);
                need(in(v[1], 0, 99), BAD);
                int was = one.out;
                one.out = v[1];
                return was;
            }
            case "feed": {
                need(in(v[0], 0, 255), BAD);
                need(tape.length() < 250, FULL);
                tape += (char) v[0];
                return tape.length();
            }
            case "wipe": {
                int was = tape.length();
                tape = "";
                return was;
            }
            case "calendar": return calendar();
            case "personOf": return personOf(needPerson(v[0]), v[1]);
            default: return answerOfTicks(name, v);
        }
    }

    private long ask(int what, int v) {
        need(in(what, 0, 2), BAD);
        int was;
        if (what == 0) {
            needPerson(v);
            was = st.host;
            st.host = v;
        } else if (what == 1) {
            need(in(v, 1, 8), BAD);
            was = st.least;
            st.least = v;
        } else {
            need(in(v, 0, 12), BAD);
            was = st.lose;
            st.lose = v;
        }
        return was;
    }

    private long answerOfTicks(String name, int[] v) {
        switch (name) {
            case "tick":
                needPerson(v[0]);
                needDay(v[1]);
                return tick(v[0], v[1]);
            case "count":
                needDay(v[0]);
                return count(v[0], -1);
            case "best": {
                need(in(v[0], 0, 1), BAD);
                need(people() > 0, STUCK);
                List<Integer> days = order(-1, day -> v[0] == 0 || tick(st.host, day) == 2);
                return days.isEmpty() ? -1 : days.get(0);
            }
            case "there":
                needDay(v[0]);
                return bits(people(), p -> free(p, v[0]));
            case "all": return allBut(-1);
            case "held":
                needPerson(v[0]);
                need(in(v[1], 0, 1), BAD);
                return IntStream.range(0, st.days).filter(day -> tick(v[0], day) == 2 && (v[1] == 0 || day != best())).count();
            case "quiet": return bits(st.days, day -> IntStream.range(0, people()).noneMatch(p -> tick(p, day) == 2));
            case "agree":
                needPerson(v[0]);
                needPerson(v[1]);
                need(v[0] != v[1], BAD);
                return bits(st.days, day -> tick(v[0], day) == 2 && tick(v[1], day) == 2);
            case "votes":
                needDay(v[0]);
                need(in(v[1], 0, 2), BAD);
                return IntStream.range(0, people()).filter(p -> tick(p, v[0]) == v[1]).count();
            case "order":
                needDay(v[0]);
                return order(-1, day -> true).get(v[0]);
            case "without":
                needPerson(v[0]);
                return order(v[0], day -> true).get(0);
            case "meant": {
                long[] ticks = needTicks(v[0], v[1]);
                return bits(6, kind -> IntStream.range(0, st.days).allMatch(day -> tickAs(kind, v[1], day) == ticks[day]));
            }
            case "freed": {
                long[] ticks = needTicks(v[0], v[1]);
                int kind = st.people.get(v[1]).kind;
                return kind == 1 ? 0 : bits(st.days, day -> ticks[day] == 2 || kind == 2 && ticks[day] == 1);
            }
            default: return answerOfOdds(name, v);
        }
    }

    private long answerOfOdds(String name, int[] v) {
        switch (name) {
            case "odds":
                need(in(v[0], 1, 99) && in(v[1], 1, 99) && in(v[2], 0, 12), BAD);
                return odds(v[0], v[1], v[2]);
            case "offer":
                need(in(v[0], 1, 99) && in(v[1], 0, 12) && in(v[2], 0, 1000000), BAD);
                return IntStream.rangeClosed(1, 99).filter(d -> odds(v[0], d, v[1]) >= v[2]).findFirst().orElse(-1);
            case "never":
                need(in(v[0], 1, 99) && in(v[1], 0, 12) && in(v[2], 0, 1000000), BAD);
                return IntStream.rangeClosed(1, 99).filter(p -> odds(p, v[0], v[1]) < v[2]).findFirst().orElse(-1);
            case "known":
                needDay(v[0]);
                need(in(v[1], 0, 99), BAD);
                return known(v[0], v[1]);
            case "until":
                needDay(v[0]);
                need(in(v[1], 0, 1000000), BAD);
                return IntStream.rangeClosed(0, 99).filter(t -> known(v[0], t) < v[1]).findFirst().orElse(-1);
            case "most": return most(v[0], v[1], v[2]);
            case "first": return first(v[0]);
            case "two": return meeting(2, v[0]);
            case "three": return meeting(3, v[0]);
            case "fair": return fair(v[0], v[1]);
            default: return answerOfDinners(name, v);
        }
    }

    private long total(int r) {
        return IntStream.range(0, st.days).filter(day -> day % 7 == r).map(this::thereCount).sum();
    }

    private long answerOfDinners(String name, int[] v) {
        switch (name) {
            case "fixed":
                return IntStream.range(0, 7).boxed().min(Comparator.comparing((Integer r) -> -total(r))).get();
            case "worst":
                need(people() > 0, STUCK);
                return IntStream.range(0, people()).boxed().min(Comparator.comparing((Integer p) -> -st.people.get(p).out)).get();
            case "drop": {
                need(in(v[0], 0, 1), BAD);
                need(people() > 0, STUCK);
                int who = IntStream.range(0, people()).boxed()
                    .min(Comparator.comparing((Integer p) -> -Integer.bitCount(allBut(p)))).get();
                return v[0] == 0 ? who : Integer.bitCount(allBut(who));
            }
            case "pairs": {
                int best = -1;
                long most = -1;
                for (int pair = 0; pair < 80; pair++) {
                    int p = pair / 10;
                    int q = pair % 10;
                    if (p < q && q < people()) {
                        long together = IntStream.range(0, st.days).filter(day -> free(p, day) && free(q, day)).count();
                        best = together > most ? pair : best;
                        most = Math.max(most, together);
                    }
                }
                return best;
            }
            case "alone": return bits(people(), p -> sharing(p) == 0);
            case "with":
                need(in(v[0], 0, 8), BAD);
                return bits(st.days, day -> thereCount(day) >= v[0]);
            case "reach":
                needPerson(v[0]);
                return sharing(v[0]);
            case "run": {
                StringBuilder dining = new StringBuilder();
                IntStream.range(0, st.days).forEach(day -> dining.append(thereCount(day) >= st.least ? 'x' : ' '));
                return Arrays.stream(dining.toString().split(" ")).mapToInt(String::length).max().orElse(0);
            }
            case "weeks":
                need(in(v[0], 0, 6), BAD);
                return total(v[0]);
            case "spread":
                return st.people.stream().mapToInt(one -> one.out).max().orElse(0)
                    - st.people.stream().mapToInt(one -> one.out).min().orElse(0);
            case "mean":
                return 1000 * IntStream.range(0, st.days).map(this::thereCount).sum() / st.days;
            case "withHost":
                needPerson(v[0]);
                return IntStream.range(0, st.days).filter(day -> free(v[0], day) && free(st.host, day)).findFirst().orElse(-1);
            case "later":
                needDay(v[0]);
                return IntStream.range(v[0], st.days).filter(day -> thereCount(day) >= st.least).findFirst().orElse(-1);
            default: return answerInTruth(name, v);
        }
    }

    private long answerInTruth(String name, int[] v) {
        switch (name) {
            case "judge": return wrong(needPlan(v[0], v[1]));
            case "leftOut": {
                needShelf(v[0]);
                need(in(v[1], 0, 40) && in(v[2], 0, 1), BAD);
                int[] plan = needRightPlan(v[0], v[1]);
                return v[2] == 0 ? Arrays.stream(plan).map(day -> people() - thereCount(day)).sum()
                    : Arrays.stream(outsAfter(plan)).max().orElse(0);
            }
            case "done":
                for (int day : needRightPlan(v[0], v[1])) {
                    dinner(day);
                }
                return st.dinners;
            case "dine":
                needDay(v[0]);
                need(thereCount(v[0]) >= st.least, STUCK);
                dinner(v[0]);
                return thereCount(v[0]);
            case "clear": {
                TreeSet<Integer> free = needPerson(v[0]).free;
                int were = free.size();
                free.clear();
                return were;
            }
            case "pass": {
                need(in(v[0], 1, 99), BAD);
                long before = st.people.stream().mapToInt(one -> one.free.size()).sum();
                for (int i = 0; i < v[0]; i++) {
                    st.people.forEach(one -> one.free.removeIf(day -> draw(12) < st.lose));
                }
                return before - st.people.stream().mapToInt(one -> one.free.size()).sum();
            }
            case "fill": return fill();
            case "years": {
                need(in(v[0], 1, 50), BAD);
                need(people() > 0, STUCK);
                int dinners = 0;
                for (int i = 0; i < v[0]; i++) {
                    fill();
                    tickAll();
                    if (thereCount(best()) >= st.least) {
                        dinner(best());
                        dinners++;
                    }
                }
                return dinners;
            }
            case "seed": {
                int was = st.seed;
                st.seed = v[0];
                return was;
            }
            case "image":
                kept = st.copy();
                return 1;
            case "back":
                need(kept != null, STUCK);
                st = kept.copy();
                for (int s = 0; s < 8; s++) {
                    if (shelves[s] instanceof Integer p && p >= people()) {
                        shelves[s] = null;
                    }
                }
                return 1;
            case "status": return status(v[0]);
            default: throw new IllegalArgumentException(name);
        }
    }
}
