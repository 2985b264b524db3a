import java.lang.reflect.InvocationTargetException;
import java.lang.reflect.Method;
import java.lang.reflect.Modifier;
import java.util.ArrayList;
import java.util.Arrays;
import java.util.Comparator;
import java.util.List;
import java.util.Random;

/** Runs of calls, the same each time, answered by the class and by a second, plain reading of the document. */
public final class ReadTwiceTest {
    // A look at the end makes 180 calls at most: 512 in all.
    private static final int CALLS = 310;
    private static final int CHOOSY = 4;
    private static final String NOISE = ";; 9a\0\u00e9\n{`:/zA";
    private static final long[] FAR = {
        Integer.MIN_VALUE, Integer.MAX_VALUE, Integer.MIN_VALUE + 1L, Integer.MAX_VALUE - 1L, -100, 1000001, 250, 99, 100
    };
    private static final String[] WORDS = {
        "days", "person", "person", "person", "free", "free", "busy", "host", "least", "lose", "out"
    };

    private final List<Method> methods = new ArrayList<>();
    private final Random random;
    private final boolean calm;
    private final WhenCanAllSix x = new WhenCanAllSix();
    private final Plain plain = new Plain();
    private final StringBuilder told = new StringBuilder();
    private int calls;

    private ReadTwiceTest(long run) {
        random = new Random(run);
        calm = run % 2 == 0;
        for (Method method : WhenCanAllSix.class.getDeclaredMethods()) {
            if (Modifier.isPublic(method.getModifiers())) {
                methods.add(method);
            }
        }
        methods.sort(Comparator.comparing(Method::getName));
    }

    public static void main(String[] args) throws Exception {
        int runs = args.length > 0 ? Integer.parseInt(args[0]) : 3000;
        int wrong = 0;
        for (int run = 0; run < runs && wrong < 10; run++) {
            String differs = new ReadTwiceTest(run).differs();
            if (differs != null) {
                wrong++;
                System.out.println("run " + run + ": " + differs);
            }
        }
        System.out.println("ReadTwiceTest: " + runs + " runs of " + CALLS + " calls and a look, " + wrong + " differ");
        if (wrong != 0) {
            System.exit(1);
        }
    }

    private String differs() throws Exception {
        if (calm) {
            begin();
        }
        while (calls < CALLS) {
            int dice = random.nextInt(40);
            if (dice == 0 && calls + 180 < CALLS) {
                feedCalendar();
            } else if (dice < 3) {
                setTicks();
            } else {
                Method method = methods.get(random.nextInt(methods.size()));
                if (calm && random.nextInt(4) > 0 && rare(method.getName())) {
                    continue;
                }
                call(method, arguments(method));
            }
            if (told.indexOf("DIFFERS") >= 0) {
                return told.toString();
            }
        }
        String seen = Look.at(x);
        String due = Look.at(plain::call);
        return seen.equals(due) ? null : told + " and then is " + seen + ", due is " + due;
    }

    private static boolean rare(String name) {
        return List.of("days", "clear", "pass", "back", "row", "show", "feed").contains(name);
    }

    private void begin() throws Exception {
        int people = random.nextInt(9);
        call("days", 1 + random.nextInt(14));
        for (int p = 0; p < people; p++) {
            call("person", random.nextInt(6), random.nextInt(4), random.nextInt(13));
        }
        call("seed", random.nextInt());
        call("fill");
        call("ask", 1, 1 + random.nextInt(3));
    }

    private void setTicks() throws Exception {
        int s = random.nextInt(8);
        int n = (int) plain.call("status", 1);
        int people = (int) plain.call("status", 0);
        call("row", s, random.nextInt(5), n);
        int like = people == 0 || random.nextInt(4) == 0 ? -1 : random.nextInt(people);
        int plan = random.nextInt(3);
        for (int i = 0; i < n && calls + 2 < CALLS; i++) {
            long tick = like == -1 ? random.nextInt(3) : plain.call("tick", like, i);
            call("set", s, i, plan == 0 ? i + random.nextInt(2) : tick);
        }
        call("meant", s, Math.max(0, like));
        call("freed", s, Math.max(0, like));
        call("judge", s, random.nextInt(4));
        call("done", s, random.nextInt(4));
    }

    private void feedCalendar() throws Exception {
        StringBuilder text = new StringBuilder();
        int statements = 1 + random.nextInt(9);
        long people = plain.call("status", 0);
        for (int i = 0; i < statements; i++) {
            String word = WORDS[random.nextInt(WORDS.length)];
            if (word.equals("person") && ++people > 8) {
                word = "free";
            }
            text.append(i == 0 ? "" : ";").append(word);
            int numbers = word.equals("person") ? 3 : List.of("free", "busy", "out").contains(word) ? 2 : 1;
            for (int j = 0; j < numbers; j++) {
                text.append(" ".repeat(1 + random.nextInt(2))).append(random.nextInt(random.nextInt(8) == 0 ? 20 : 4));
            }
        }
        if (random.nextInt(3) == 0) {
            text.insert(random.nextInt(text.length() + 1), NOISE.charAt(random.nextInt(NOISE.length())));
        }
        if (random.nextInt(4) == 0) {
            text.deleteCharAt(random.nextInt(text.length()));
        }
        if (random.nextInt(6) == 0) {
            text.setLength(random.nextInt(text.length() + 1));
        }
        for (int i = 0; i < text.length(); i++) {
            call("feed", text.charAt(i));
        }
        told.append(" [").append(text).append("]");
        call("calendar");
    }

    private long[] arguments(Method method) {
        long[] arguments = new long[method.getParameterCount()];
        boolean big = List.of("offer", "never", "until").contains(method.getName());
        for (int i = 0; i < arguments.length; i++) {
            int dice = random.nextInt(30);
            if (dice == 0) {
                arguments[i] = FAR[random.nextInt(FAR.length)];
            } else if (dice < 4) {
                arguments[i] = random.nextInt(20) - 3;
            } else {
                arguments[i] = random.nextInt(random.nextInt(5) == 0 ? 14 : 5);
            }
            Class<?> type = method.getParameterTypes()[i];
            if (type == long.class) {
                arguments[i] = random.nextInt(3) == 0 ? random.nextLong() : random.nextInt(3);
            } else if (type == boolean.class) {
                arguments[i] = random.nextInt(3) == 0 ? 0 : 1;
            } else if (big && i == arguments.length - 1 && dice > 3) {
                arguments[i] = random.nextInt(1000001);
            } else if (List.of("first", "two", "three", "fair").contains(method.getName()) && random.nextInt(3) == 0) {
                arguments[i] = i == arguments.length - 1 ? -1 : arguments[i];
            }
        }
        return arguments;
    }

    // Where two readings of the document would do (NOTES.md), neither is held against the other.
    private boolean leavesAChoice(String name, long[] arguments) {
        if (name.equals("freed") && arguments[1] >= 0 && arguments[1] < plain.call("status", 0)) {
            return plain.call("personOf", arguments[1], 0) == CHOOSY;
        }
        return name.equals("copy") && arguments[4] == 0;
    }

    private void call(String name, long... arguments) throws Exception {
        for (Method method : methods) {
            if (method.getName().equals(name)) {
                call(method, arguments);
            }
        }
    }

    private void call(Method method, long[] arguments) throws Exception {
        if (leavesAChoice(method.getName(), arguments)) {
            return;
        }
        Object[] given = new Object[arguments.length];
        for (int i = 0; i < given.length; i++) {
            Class<?> type = method.getParameterTypes()[i];
            given[i] = type == long.class ? (Object) arguments[i]
                : type == boolean.class ? (Object) (arguments[i] != 0) : (Object) (int) arguments[i];
        }
        calls++;
        long want = plain.call(method.getName(), arguments);
        String got;
        try {
            got = "" + ((Number) method.invoke(x, given)).longValue();
        } catch (InvocationTargetException thrown) {
            got = thrown.getCause().toString();
        }
        told.append(' ').append(method.getName()).append(Arrays.toString(arguments)).append('=').append(got);
        if (!got.equals("" + want)) {
            told.append(" DIFFERS, due is ").append(want);
        }
    }
}
