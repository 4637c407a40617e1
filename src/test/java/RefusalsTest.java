import java.util.ArrayList;
import java.util.List;
import java.util.function.ToLongFunction;

/**
 * "Refusals .. change nothing": each call with arguments at and around its limits, in states from empty to full. One
 * that is refused must leave an object that tells the same as its twin that was not asked, then and in later cycles.
 */
public final class RefusalsTest {
    private static final int UNKNOWN = -101, FULL = -104;
    private static final boolean[] BOTH = {true, false};

    private final List<ToLongFunction<SlotChip>> calls = new ArrayList<>();
    private final List<String> names = new ArrayList<>();

    public static void main(String[] args) {
        Check.sentence("3: Refusals change nothing");
        RefusalsTest test = new RefusalsTest();
        test.gather();
        int refused = 0;
        for (int state = 0; state < 9; state++) {
            for (int call = 0; call < test.calls.size(); call++) {
                refused += test.ask(state, call);
            }
        }
        System.out.println(test.calls.size() + " calls in 9 states, " + refused + " were refused");
        Check.end("RefusalsTest");
    }

    private void add(String name, ToLongFunction<SlotChip> call) {
        names.add(name);
        calls.add(call);
    }

    private void gather() {
        add("chip", SlotChip::chip);
        for (int code : new int[] {-1, 31, 32, 65, 126, 127}) {
            add("letter " + code, x -> x.letter(code));
        }
        for (int what = -1; what <= 8; what++) {
            int its = what;
            add("about " + what, x -> x.about(its));
            add("count " + what, x -> x.count(its));
            add("arrived " + what, x -> x.arrived(its > 2, its));
        }
        gatherLinks();
        gatherOpen();
        gatherCircuits();
        gatherStrays();
        for (int cycles : new int[] {-1, 0, 1, 40, 41}) {
            add("run " + cycles, x -> x.run(cycles));
        }
    }

    private void gatherLinks() {
        for (int link : new int[] {-1, 0, 1, 2, 3, 4, 5, 23, 24, 53, 54}) {
            for (boolean broken : BOTH) {
                add("cut " + link + " " + broken, x -> x.cut(link, broken));
            }
            for (int number : new int[] {-1, 0, 3, 4, 10}) {
                add("link " + link + " " + number, x -> x.link(link, number));
                add("slot " + link + " " + number, x -> x.slot(link, number));
            }
        }
    }

    private void gatherOpen() {
        int[][] ends = {{0, 1}, {1, 0}, {3, 2}, {0, 0}, {-1, 0}, {0, 9}, {2, 3}};
        int[][] rest = {{1, 1}, {4, 15}, {0, 1}, {5, 1}, {1, 0}, {1, 16}};
        for (int kind = -1; kind <= 5; kind++) {
            for (int[] end : ends) {
                for (int[] one : rest) {
                    int its = kind;
                    add("open " + kind + " " + end[0] + " " + end[1] + " " + one[0] + " " + one[1],
                        x -> x.open(its, end[0], end[1], one[0], one[1]));
                }
            }
        }
    }

    private void gatherCircuits() {
        for (int circuit = -1; circuit <= 8; circuit++) {
            int its = circuit;
            add("move " + circuit, x -> x.move(its));
            add("close " + circuit, x -> x.close(its));
            for (int number : new int[] {-1, 0, 1, 2, 4, 5, 8, 15, 16, 99, 100}) {
                add("as " + circuit + " " + number, x -> x.as(its, number));
                add("circuit " + circuit + " " + number, x -> x.circuit(its, number));
                add("route " + circuit + " " + number, x -> x.route(its, number));
                add("start " + circuit + " " + number, x -> x.start(its, number));
                add("pair " + circuit + " " + number, x -> x.pair(its, number));
                add("feed " + circuit + " " + number, x -> x.feed(its, number));
                add("take " + circuit + " " + number, x -> x.take(its, number));
            }
        }
    }

    private void gatherStrays() {
        for (int router : new int[] {-1, 0, 3, 4, 9}) {
            for (int to : new int[] {-1, 0, 3, 4, 9}) {
                add("stray " + router + " " + to, x -> x.stray(router, to, to > 2));
            }
        }
        for (int stray : new int[] {-1, 0, 11, 12}) {
            for (int what : new int[] {-1, 0, 4, 5}) {
                add("straying " + stray + " " + what, x -> x.straying(stray, what));
            }
        }
        for (int many : new int[] {-1, 0, 1, 12, 13}) {
            for (int seed : new int[] {Integer.MIN_VALUE, -1, 0, 1}) {
                add("storm " + many + " " + seed, x -> x.storm(many, seed));
            }
        }
    }

    /** From an object without a chip to one that is full of all that there can be. */
    private static SlotChip make(int state) {
        SlotChip x = new SlotChip();
        if (state == 0) {
            return x;
        }
        if (state == 1) {
            Check.write(x, "2x2:10-0e-0s-1s-1w-2n-2e-3n-3?");
            return x;
        }
        Check.read(x, state == 2 ? "2x2:4-0e-0s-1s-1w-2n-2e-3n-3w" : state == 7 ? "3x3:4" : "2x2:4");
        if (state > 3) {
            fill(x, state);
        }
        if (state > 4) {
            x.run(state == 5 ? 1 : 6);
        }
        Check.write(x, state % 2 == 0 ? "2x2:1" : "");
        return x;
    }

    private static void fill(SlotChip x, int state) {
        if (state == 7) {
            for (int circuit = 0; circuit < 8; circuit++) {
                x.open(circuit == 4 ? 4 : 0, circuit, circuit + 1, 4, 3);
                x.feed(circuit, 99);
            }
            x.storm(12, 5);
            return;
        }
        x.open(0, 0, 1, 2, 4);
        x.open(2, 1, 0, 3, 5);
        x.open(4, 0, 3, 1, 1);
        x.open(3, 3, 0, 1, 15);
        x.open(0, 3, 2, 3, 2);
        x.pair(0, 1);
        x.feed(0, 99);
        x.feed(1, 98);
        x.feed(3, 1);
        x.storm(state == 8 ? 12 : 3, 5);
        if (state == 8) {
            x.run(9);
            x.take(0, 2);
            x.take(1, 1);
            x.storm(12, 6);
        }
    }

    private static long whole(SlotChip x) {
        long h = 31 * x.digest() + x.fault();
        for (int link = 0; link < 54; link += link % 6 == 0 ? 3 : 1) {
            for (int slot = 0; slot < 4; slot++) {
                h = 31 * h + x.slot(link, slot);
            }
        }
        return h;
    }

    /** 1, if the call was refused. */
    private int ask(int state, int call) {
        SlotChip asked = make(state);
        long answer = calls.get(call).applyAsLong(asked);
        if (answer > UNKNOWN || answer < FULL) {
            return 0;
        }
        SlotChip twin = make(state);
        String what = "state " + state + ", behind " + names.get(call) + " refused by " + answer;
        Check.due(what, whole(asked), whole(twin));
        Check.due(what + ", the next cycle", asked.run(1), twin.run(1));
        Check.due(what + ", all behind it", asked.digest(), twin.digest());
        Check.due(what + ", a letter more", asked.letter('0'), twin.letter('0'));
        Check.due(what + ", eleven cycles more", asked.run(11), twin.run(11));
        Check.due(what + ", all behind them", whole(asked), whole(twin));
        return 1;
    }
}
