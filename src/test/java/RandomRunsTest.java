import java.lang.reflect.Method;
import java.util.List;
import java.util.Random;

/**
 * Runs of calls drawn by fixed seeds, on the program and on the model of the document: every answer must be the same,
 * the digest too, behind each call; and a refused call must change nothing.
 */
public final class RandomRunsTest {
    private static final int RUNS = 1200;
    /** An object is used for 512 calls at most: each drawn one, and the digest behind it. */
    private static final int MOST_CALLS = 256;
    private static final String[] NAMES = {"letter", "blank", "fault", "chip", "about", "link", "slot", "cut", "open",
        "as", "circuit", "route", "start", "pair", "move", "close", "feed", "take", "fastest", "stray", "straying",
        "arrived", "faster", "run", "storm", "count", "digest"};
    private static final int[] WEIGHTS = {2, 1, 2, 1, 2, 2, 2, 9, 40, 3, 3, 3, 3, 16, 12, 8, 24, 24, 3, 12, 3, 3, 2,
        36, 4, 2, 1};
    private static final Method[] OF_PROGRAM = methodsOf(SlotChip.class);
    private static final Method[] OF_MODEL = methodsOf(Model.class);

    private final Random random;
    private final SlotChip program = new SlotChip();
    private final Model model = new Model();
    private final StringBuilder told = new StringBuilder();
    private final int run;
    private int wrong;
    private int calls;
    private long digest = model.digest();
    private final int[] answers;

    private RandomRunsTest(int run, int[] answers) {
        this.run = run;
        this.answers = answers;
        random = new Random(77L * run + 5);
    }

    public static void main(String[] args) {
        int[] answers = new int[NAMES.length * 5];
        int wrong = 0;
        for (int run = 0; run < RUNS && wrong < 5; run++) {
            wrong += new RandomRunsTest(run, answers).go();
        }
        for (int i = 0; i < NAMES.length; i++) {
            System.out.printf("%-9s ok %7d, UNKNOWN %6d, OUTSIDE %6d, STATE %6d, FULL %6d%n", NAMES[i], answers[5 * i],
                answers[5 * i + 1], answers[5 * i + 2], answers[5 * i + 3], answers[5 * i + 4]);
        }
        System.out.println(RUNS + " random runs, " + wrong + " of them with a wrong answer");
        if (wrong != 0) {
            System.exit(1);
        }
    }

    private int go() {
        if (random.nextInt(20) > 0) {
            read(chipText());
        }
        while (calls < MOST_CALLS && wrong == 0) {
            if (random.nextInt(120) == 0) {
                read(random.nextBoolean() ? chipText() : faultyText());
            } else if (random.nextInt(400) == 0) {
                call(3, 0, 0, 0, 0, 0);
            } else {
                drawCall();
            }
        }
        return wrong;
    }

    private String chipText() {
        int w = 2 + random.nextInt(2);
        int h = 2 + random.nextInt(2);
        StringBuilder text = new StringBuilder().append(w).append('x').append(h).append(':').append(4 + random.nextInt(7));
        int breaks = random.nextInt(9) < 4 ? 0 : random.nextInt(9);
        List<String> names = Model.names(w, h);
        for (int i = 0; i < breaks && text.length() <= 27 && !names.isEmpty(); i++) {
            text.append(names.remove(random.nextInt(names.size())));
        }
        return text.toString();
    }

    private String faultyText() {
        StringBuilder text = new StringBuilder(chipText());
        int place = random.nextInt(text.length());
        text.setCharAt(place, "0123456789x:-nesw ~".charAt(random.nextInt(19)));
        return text.toString();
    }

    private void read(String text) {
        if (random.nextInt(8) > 0) {
            call(1, 0, 0, 0, 0, 0);
        }
        for (int i = 0; i < text.length(); i++) {
            call(0, text.charAt(i), 0, 0, 0, 0);
            if (random.nextInt(6) == 0) {
                call(2, 0, 0, 0, 0, 0);
            }
        }
        call(2, 0, 0, 0, 0, 0);
        call(3, 0, 0, 0, 0, 0);
    }

    private int number(int from, int to) {
        int kind = random.nextInt(40);
        return kind == 0 ? from - 1 : kind == 1 ? to + 1 : kind == 2 && random.nextInt(6) == 0 ? random.nextInt()
            : from + random.nextInt(to - from + 1);
    }

    private int router() {
        return number(0, Math.max(3, model.about(0) * model.about(1) - 1) % 9);
    }

    private int circuit() {
        return number(0, random.nextInt(4) == 0 ? 7 : 3);
    }

    private void drawCall() {
        int sum = 0;
        for (int weight : WEIGHTS) {
            sum += weight;
        }
        int drawn = random.nextInt(sum);
        int which = 0;
        while (drawn >= WEIGHTS[which]) {
            drawn -= WEIGHTS[which];
            which++;
        }
        int flag = random.nextInt(2);
        switch (NAMES[which]) {
            case "letter": call(which, number(32, 126), 0, 0, 0, 0); break;
            case "about": call(which, number(0, 7), 0, 0, 0, 0); break;
            case "link": call(which, number(0, 53), number(0, 3), 0, 0, 0); break;
            case "slot": call(which, number(0, 53), number(0, 9), 0, 0, 0); break;
            case "cut": call(which, number(0, 53), flag, 0, 0, 0); break;
            case "open": open(which); break;
            case "as": call(which, circuit(), number(0, 4), 0, 0, 0); break;
            case "circuit": call(which, circuit(), number(0, 14), 0, 0, 0); break;
            case "route": call(which, circuit(), number(0, 7), 0, 0, 0); break;
            case "start": call(which, circuit(), number(0, 3), 0, 0, 0); break;
            case "pair": pair(which); break;
            case "move": case "close": call(which, circuit(), 0, 0, 0, 0); break;
            case "feed": call(which, circuit(), random.nextBoolean() ? number(1, 99) : number(1, 9), 0, 0, 0); break;
            case "take": call(which, circuit(), number(1, random.nextInt(5) == 0 ? 99 : 3), 0, 0, 0); break;
            case "stray": call(which, router(), router(), flag, 0, 0); break;
            case "straying": call(which, number(0, 5), number(0, 4), 0, 0, 0); break;
            case "arrived": call(which, flag, number(0, 2), 0, 0, 0); break;
            case "run": call(which, random.nextBoolean() ? number(1, 40) : number(1, 6), 0, 0, 0, 0); break;
            case "storm": call(which, number(1, 12), random.nextInt() >>> random.nextInt(3), 0, 0, 0); break;
            case "count": call(which, number(0, 6), 0, 0, 0, 0); break;
            case "chip": case "blank":
                if (random.nextInt(10) == 0) {
                    call(which, 0, 0, 0, 0, 0);
                }
                break;
            default: call(which, 0, 0, 0, 0, 0); break;
        }
    }

    /** Often such circuits as can be paired: the same two routers, the other way about. */
    private void open(int which) {
        int from = router();
        int to = router();
        int mate = random.nextInt(8);
        if (random.nextInt(3) == 0 && model.circuit(mate, 0) >= 0) {
            from = model.circuit(mate, 2);
            to = model.circuit(mate, 1);
        }
        call(which, number(0, 4), from, to, random.nextInt(3) == 0 ? number(1, 4) : number(1, 2), number(1, 15));
    }

    private void pair(int which) {
        int one = circuit();
        int other = circuit();
        for (int i = 0; i < 8; i++) {
            boolean fits = model.circuit(one, 1) == model.circuit(i, 2) && model.circuit(one, 2) == model.circuit(i, 1);
            if (fits && model.circuit(i, 0) >= 0) {
                other = i;
            }
        }
        call(which, one, other, 0, 0, 0);
    }

    private void call(int which, int a, int b, int c, int d, int e) {
        if (wrong != 0 || calls >= MOST_CALLS) {
            return;
        }
        long before = digest;
        long got = answer(program, OF_PROGRAM[which], a, b, c, d, e);
        long due = answer(model, OF_MODEL[which], a, b, c, d, e);
        told.append(NAMES[which]).append('(').append(a).append(", ").append(b).append(", ").append(c).append(", ")
            .append(d).append(", ").append(e).append(") ").append(got).append('\n');
        boolean refused = which != NAMES.length - 1 && due <= -101;
        answers[5 * which + (refused ? (int) (-100 - due) : 0)]++;
        calls++;
        digest = program.digest();
        if (got != due) {
            fail("due is " + due);
        } else if (refused && before != digest) {
            fail("the refused call changed something");
        } else if (digest != model.digest()) {
            fail("the digest is another one then");
        }
    }

    private void fail(String why) {
        wrong = 1;
        System.out.println("run " + run + ":\n" + told + "^ " + why);
    }

    private static Method[] methodsOf(Class<?> type) {
        Method[] methods = new Method[NAMES.length];
        for (Method method : type.getDeclaredMethods()) {
            int which = List.of(NAMES).indexOf(method.getName());
            if (which >= 0) {
                methods[which] = method;
            }
        }
        return methods;
    }

    private static long answer(Object x, Method method, int... numbers) {
        Object[] arguments = new Object[method.getParameterCount()];
        for (int i = 0; i < arguments.length; i++) {
            boolean flag = method.getParameterTypes()[i] == boolean.class;
            arguments[i] = flag ? Boolean.valueOf(numbers[i] == 1) : Integer.valueOf(numbers[i]);
        }
        try {
            return ((Number) method.invoke(x, arguments)).longValue();
        } catch (ReflectiveOperationException thrown) {
            throw new IllegalStateException("a call threw", thrown);
        }
    }
}
