import java.util.ArrayList;
import java.util.Arrays;
import java.util.List;

/** The boundary cases of promises 10, 11, 13, 14, 16, and of WAYS, STARTS and KINDS, sentence by sentence. */
public final class OpenBoundariesTest {
    private static final int PLAIN = 0, SPREAD = 1, WIDE = 2, BURST = 3, SOLO = 4;
    /** 0 to 2 by six hops: 0, 3, 6, 7, 8, 5, 2; 0 to 1 by seven, 0 to 4 by eight. */
    private static final String LONG_WAY = "-0e-3e-7n-5w";

    public static void main(String[] args) {
        promise10NoChip();
        promise10Routers();
        promise10Kind();
        promise10N();
        promise10Window();
        promise10Number();
        promise10Full();
        promise10NoWay();
        promise10Several();
        waysOneToSix();
        waysFirst();
        waysNotBroken();
        waysAsFewAsAny();
        waysOfAWideOne();
        startsOfAllKinds();
        startsOfAllKindsWithTen();
        startsFillAll();
        burstRound();
        gap();
        promise11Kinds();
        promise11Refusals();
        promise13Places();
        promise14Places();
        promise14TheLeastFirst();
        promise16Refusals();
        promise16ALetterIsUnderWay();
        promise16NoWayThen();
        promise16AsIfItWereNotThere();
        Check.end("OpenBoundariesTest");
    }

    private static void promise10NoChip() {
        Check.sentence("10: STATE: no CHIP, ahead of all else");
        SlotChip x = new SlotChip();
        Check.state(x, "open without a chip", () -> x.open(0, 0, 1, 1, 1));
        Check.state(x, "and from nowhere", () -> x.open(0, -1, 9, 1, 1));
        Check.state(x, "and of no kind", () -> x.open(5, 0, 1, 1, 1));
        Check.state(x, "and all at once", () -> x.open(-1, 0, 0, 0, 0));
    }

    private static void promise10Routers() {
        Check.sentence("10: UNKNOWN: from, to (unlike ROUTERS)");
        for (int[] size : Sizes.ALL) {
            int routers = Sizes.routers(size);
            for (int from = -1; from <= 9; from++) {
                for (int to = -1; to <= 9; to++) {
                    SlotChip x = Check.chip(Sizes.text(size, 4));
                    boolean allowed = from >= 0 && from < routers && to >= 0 && to < routers && from != to;
                    Check.due("open from " + from + " to " + to, x.open(0, from, to, 1, 1), allowed ? 0 : -101);
                    Check.due("count(0)", x.count(0), allowed ? 1 : 0);
                }
            }
            SlotChip x = Check.chip(Sizes.text(size, 4));
            for (int router : Check.around(0, routers - 1)) {
                Check.unknown(x, "from " + router, () -> x.open(0, router, 0, 1, 1));
                Check.unknown(x, "to " + router, () -> x.open(0, 0, router, 1, 1));
            }
        }
    }

    private static void promise10Kind() {
        Check.sentence("10: OUTSIDE: kind (0 to 4)");
        SlotChip x = Check.chip("2x2:10");
        for (int kind : Check.around(0, 4)) {
            Check.outside(x, "open of kind " + kind, () -> x.open(kind, 0, 1, 1, 1));
        }
        for (int kind = 0; kind <= 4; kind++) {
            Check.due("open of kind " + kind, x.open(kind, 0, 1, 1, 1), kind);
            Check.due("its KIND", x.circuit(kind, 0), kind);
        }
    }

    private static void promise10N() {
        Check.sentence("10: OUTSIDE: n (1 to 4)");
        for (int kind = 0; kind <= 4; kind++) {
            int its = kind;
            SlotChip x = Check.chip("3x3:10");
            for (int n : Check.around(1, 4)) {
                Check.outside(x, "open with N " + n, () -> x.open(its, 0, 1, n, 1));
            }
            for (int n = 1; n <= 4; n++) {
                Check.due("open with N " + n, x.open(kind, 2 * n - 2, 2 * n - 1, n, 1), n - 1);
                Check.due("its N", x.circuit(n - 1, 3), n);
                Check.due("slots of its IN", x.link(6 * (2 * n - 2), 2), n);
            }
        }
    }

    private static void promise10Window() {
        Check.sentence("10: OUTSIDE: window (1 to 15)");
        SlotChip x = Check.chip("2x2:4");
        for (int window : Check.around(1, 15)) {
            Check.outside(x, "open with a window of " + window, () -> x.open(0, 0, 1, 1, window));
        }
        for (int window = 1; window <= 15; window++) {
            Check.due("open with a window of " + window, x.open(0, 0, 1, 1, window), 0);
            Check.due("its WINDOW", x.circuit(0, 4), window);
            Check.due("its CREDITS at first", x.circuit(0, 9), window);
            x.close(0);
        }
    }

    private static void promise10Number() {
        Check.sentence("10: its number, the least that no other one has");
        for (int closed = 0; closed < 256; closed++) {
            SlotChip x = Check.chip("3x3:10");
            for (int circuit = 0; circuit < 8; circuit++) {
                x.open(0, circuit, circuit + 1, 1, 1);
            }
            for (int circuit = 0; circuit < 8; circuit++) {
                if ((closed >> circuit & 1) == 1) {
                    x.close(circuit);
                }
            }
            for (int circuit = 0; circuit < 8; circuit++) {
                if ((closed >> circuit & 1) == 1) {
                    Check.due("open", x.open(0, 8, 0, 1, 1), circuit);
                }
            }
            Check.due("then there are eight", x.open(0, 8, 0, 1, 1), -104);
        }
        SlotChip x = Check.chip("2x2:4");
        x.open(0, 0, 1, 4, 1);
        x.open(0, 0, 1, 4, 1);
        x.open(9, 0, 1, 4, 1);
        Check.due("a refused one takes no number", x.open(0, 1, 0, 1, 1), 1);
    }

    private static SlotChip withEight(String text, int n) {
        SlotChip x = Check.chip(text);
        for (int circuit = 0; circuit < 8; circuit++) {
            Check.due("one of eight", x.open(0, circuit, circuit + 1, n, 1), circuit);
        }
        return x;
    }

    private static void promise10Full() {
        Check.sentence("10: FULL: there are eight");
        SlotChip x = withEight("3x3:10", 1);
        Check.full(x, "a ninth one", () -> x.open(0, 0, 1, 1, 1));
        Check.full(x, "a ninth one, WIDE", () -> x.open(2, 4, 0, 4, 15));
        Check.due("count(0)", x.count(0), 8);
        x.close(7);
        Check.due("the eighth one again", x.open(0, 0, 1, 1, 1), 7);
        Check.full(x, "a ninth one again", () -> x.open(0, 0, 1, 1, 1));
    }

    private static void promise10NoWay() {
        Check.sentence("10: STATE: there is no WAY for it");
        SlotChip x = Check.chip("2x2:4");
        x.open(0, 0, 1, 3, 1);
        for (int kind = 0; kind <= 4; kind++) {
            int its = kind;
            Check.state(x, "two starts, one is free", () -> x.open(its, 0, 1, 2, 1));
            Check.state(x, "four starts, one is free", () -> x.open(its, 0, 3, 4, 1));
            Check.due("one start", x.open(kind, 0, 1, 1, 1), 1);
            Check.state(x, "one start, none is free", () -> x.open(its, 0, 2, 1, 1));
            x.close(1);
        }
        SlotChip alone = Check.chip("2x2:4-0e-0s");
        for (int to = 1; to <= 3; to++) {
            int router = to;
            Check.state(alone, "no link leads from 0", () -> alone.open(WIDE, 0, router, 1, 1));
            Check.due("but to it", alone.open(PLAIN, router, 0, 1, 1), router - 1);
        }
    }

    /** All that can be wrong, in all combinations: the first as told is answered. */
    private static void promise10Several() {
        Check.sentence("10: of several the first: UNKNOWN, OUTSIDE, FULL, STATE");
        SlotChip[] chips = {Check.chip("3x3:4"), withEight("3x3:5", 1), withEight("3x3:4", 4), Check.chip("3x3:4")};
        chips[3].open(0, 0, 1, 4, 1);
        int[] due = {0, -104, -104, -103};
        int[][] routers = {{0, 1}, {0, 0}, {-1, 1}, {9, 1}, {0, -1}, {0, 9}, {9, 9}};
        for (int chip = 0; chip < 4; chip++) {
            SlotChip x = chips[chip];
            for (int[] router : routers) {
                for (int wrong = 0; wrong < 8; wrong++) {
                    int kind = (wrong & 1) == 0 ? 0 : 5;
                    int n = (wrong & 2) == 0 ? 1 : 0;
                    int window = (wrong & 4) == 0 ? 1 : 16;
                    boolean known = router == routers[0];
                    int want = !known ? -101 : wrong != 0 ? -102 : due[chip];
                    if (want < 0) {
                        Check.refused(x, "open(" + kind + ", " + router[0] + ", " + router[1] + ", " + n + ", " + window
                            + ")", want, () -> x.open(kind, router[0], router[1], n, window));
                    }
                }
            }
        }
    }

    private static void route(String what, SlotChip x, int circuit, int... wants) {
        Check.due(what + ", HOPS", x.circuit(circuit, 5), wants.length - 2);
        Check.row(what + ", route", place -> x.route(circuit, place), wants);
        Check.due(what + ", behind its end", x.route(circuit, wants.length), -101);
    }

    private static void waysOneToSix() {
        Check.sentence("2: A WAY: one to six LINKS (HOPS) .. no ROUTER twice");
        SlotChip one = Check.chip("2x2:4");
        one.open(PLAIN, 3, 2, 1, 1);
        route("one hop", one, 0, 18, 23, 13);
        SlotChip x = Check.chip("3x3:10" + LONG_WAY);
        Check.due("six hops", x.open(PLAIN, 0, 2, 1, 1), 0);
        route("six hops", x, 0, 0, 4, 22, 39, 45, 50, 32, 13);
        for (int kind = 0; kind <= 4; kind++) {
            int its = kind;
            Check.state(x, "seven hops", () -> x.open(its, 0, 1, 1, 1));
            Check.state(x, "eight hops", () -> x.open(its, 0, 4, 1, 1));
        }
        Check.due("six hops of those seven", x.open(PLAIN, 3, 1, 1, 1), 1);
        route("six hops of those seven", x, 1, 18, 22, 39, 45, 50, 32, 17, 7);
        Check.due("six hops of those eight", x.open(WIDE, 6, 4, 1, 1), 2);
        route("six hops of those eight", x, 2, 36, 39, 45, 50, 32, 17, 10, 25);
    }

    private static void waysFirst() {
        Check.sentence("2: that one is first that has fewer HOPS; of like ones that which has the lesser PORT first");
        for (int[] size : Sizes.ALL) {
            for (int from = 0; from < Sizes.routers(size); from++) {
                for (int to = 0; to < Sizes.routers(size); to++) {
                    for (int kind = 0; kind <= 4 && from != to; kind++) {
                        SlotChip x = Check.chip(Sizes.text(size, 5));
                        x.open(kind, from, to, 1, 1);
                        route("from " + from + " to " + to, x, 0, shortest(size, from, to));
                    }
                }
            }
        }
    }

    /** Without a broken link: all steps NORTH, then EAST, then SOUTH, then WEST. */
    private static int[] shortest(int[] size, int from, int to) {
        int dx = to % size[0] - from % size[0];
        int dy = to / size[0] - from / size[0];
        int[] steps = {Math.max(0, -dy), Math.max(0, dx), Math.max(0, dy), Math.max(0, -dx)};
        int[] route = new int[Math.abs(dx) + Math.abs(dy) + 2];
        route[0] = 6 * from;
        int router = from;
        int place = 1;
        for (int port = 2; port <= 5; port++) {
            for (int step = 0; step < steps[port - 2]; step++) {
                route[place] = 6 * router + port;
                router = Sizes.end(size, route[place]);
                place++;
            }
        }
        route[place] = 6 * to + 1;
        return route;
    }

    private static void waysNotBroken() {
        Check.sentence("2: LINKS of PORTS 2 to 5, not BROKEN");
        SlotChip x = Check.chip("3x3:4");
        x.cut(3, true);
        x.open(PLAIN, 0, 2, 1, 1);
        route("round the first link", x, 0, 0, 4, 21, 26, 9, 13);
        x.close(0);
        x.cut(26, true);
        x.open(PLAIN, 0, 2, 1, 1);
        route("round the third one, too", x, 0, 0, 4, 21, 27, 32, 13);
        x.close(0);
        x.cut(3, false);
        x.open(PLAIN, 0, 2, 1, 1);
        route("the first one is mended", x, 0, 0, 3, 9, 13);
        SlotChip y = Check.chip("2x2:4-1w");
        y.open(PLAIN, 0, 1, 1, 1);
        route("a link is broken one way only", y, 0, 0, 3, 7);
        y.open(PLAIN, 1, 0, 1, 1);
        route("and that is the other one", y, 1, 6, 10, 23, 14, 1);
    }

    private static void waysAsFewAsAny() {
        Check.sentence("2: another one only of those with as few HOPS as any");
        SlotChip x = Check.chip("2x2:4");
        x.open(PLAIN, 2, 1, 4, 1);
        route("it fills EAST of 0", x, 0, 12, 14, 3, 7);
        x.open(PLAIN, 0, 3, 1, 1);
        route("a second way with as few hops", x, 1, 0, 4, 15, 19);
        x.close(0);
        x.close(1);
        x.open(PLAIN, 2, 1, 3, 1);
        x.open(PLAIN, 0, 3, 1, 1);
        route("the first way has one start for it", x, 1, 0, 3, 10, 19);
        SlotChip y = Check.chip("3x2:4");
        y.open(PLAIN, 3, 2, 4, 1);
        for (int kind : new int[] {PLAIN, SPREAD, BURST, SOLO}) {
            Check.state(y, "a longer way is none for kind " + kind, () -> y.open(kind, 0, 1, 1, 1));
        }
        SlotChip z = Check.chip("3x2:4-0e");
        Check.due("a longer way, if no shorter one is whole", z.open(PLAIN, 0, 1, 1, 1), 0);
        Check.due("its HOPS", z.circuit(0, 5), 3);
    }

    private static void waysOfAWideOne() {
        Check.sentence("2: a WIDE one of all WAYS");
        SlotChip x = Check.chip("3x3:4");
        x.open(PLAIN, 3, 2, 4, 1);
        route("it fills NORTH of 3, EAST of 0 and 1, OUT of 2", x, 0, 18, 20, 3, 9, 13);
        x.open(WIDE, 0, 1, 1, 1);
        route("three hops", x, 1, 0, 4, 21, 26, 7);
        x.open(PLAIN, 3, 4, 4, 1);
        Check.due("EAST of 3 is not full of one that could not be opened", x.count(0), 2);
        SlotChip y = Check.chip("3x3:4-3e");
        y.open(PLAIN, 6, 1, 4, 1);
        route("it fills EAST of 0", y, 0, 36, 38, 20, 3, 7);
        y.close(0);
        y.open(PLAIN, 3, 2, 4, 1);
        y.open(WIDE, 0, 1, 1, 1);
        route("five hops, no three are whole", y, 1, 0, 4, 22, 39, 44, 26, 7);
        SlotChip n = Check.chip("2x2:4");
        n.open(PLAIN, 2, 1, 1, 1);
        n.open(WIDE, 0, 1, 3, 1);
        route("three starts on the first way", n, 1, 0, 3, 7);
        n.close(1);
        n.open(WIDE, 0, 1, 4, 1);
        Check.due("four starts: OUT of 1 lacks one on any way", n.count(0), 1);
    }

    /** What a kind gets out of free starts, by trying all sets; null, if there is none. */
    private static int[] choice(int kind, int n, List<Integer> free, int slots) {
        int[] best = null;
        for (int set = 0; set < 1 << slots; set++) {
            int[] rising = rising(set);
            if (rising.length != n || !free.containsAll(listOf(rising)) || kind == BURST && runFirst(rising, slots) < 0) {
                continue;
            }
            if (best == null || isAhead(kind, rising, best, slots)) {
                best = rising;
            }
        }
        return best;
    }

    private static int[] rising(int set) {
        int[] all = new int[Integer.bitCount(set)];
        int many = 0;
        for (int start = 0; start < 10; start++) {
            if ((set >> start & 1) == 1) {
                all[many] = start;
                many++;
            }
        }
        return all;
    }

    private static List<Integer> listOf(int[] numbers) {
        List<Integer> all = new ArrayList<>();
        for (int number : numbers) {
            all.add(number);
        }
        return all;
    }

    private static boolean isAhead(int kind, int[] one, int[] other, int slots) {
        if (kind == BURST) {
            return runFirst(one, slots) < runFirst(other, slots);
        }
        if ((kind == SPREAD || kind == WIDE) && gapOf(one, slots) != gapOf(other, slots)) {
            return gapOf(one, slots) < gapOf(other, slots);
        }
        return Arrays.compare(one, other) < 0;
    }

    /** The first one of a run, round behind the last slot; -1, if it is no run. */
    private static int runFirst(int[] rising, int slots) {
        for (int first = 0; first < slots; first++) {
            List<Integer> run = new ArrayList<>();
            for (int i = 0; i < rising.length; i++) {
                run.add((first + i) % slots);
            }
            if (run.containsAll(listOf(rising))) {
                return first;
            }
        }
        return -1;
    }

    private static int gapOf(int[] rising, int slots) {
        int gap = rising[0] + slots - rising[rising.length - 1];
        for (int i = 1; i < rising.length; i++) {
            gap = Math.max(gap, rising[i] - rising[i - 1]);
        }
        return gap;
    }

    /** Eight circuits of so many starts each; those of a set are closed, and what they had is free. */
    private static void freeOnes(int slots, int[] widths, int closed) {
        List<Integer> free = new ArrayList<>();
        SlotChip x = Check.chip("2x2:" + slots);
        int first = 0;
        for (int circuit = 0; circuit < widths.length; circuit++) {
            x.open(PLAIN, 0, 1, widths[circuit], 1);
            for (int i = 0; i < widths[circuit] && (closed >> circuit & 1) == 1; i++) {
                free.add(first + i);
            }
            first += widths[circuit];
        }
        Check.due("all starts are had", x.link(0, 2), slots);
        for (int circuit = 0; circuit < widths.length; circuit++) {
            if ((closed >> circuit & 1) == 1) {
                x.close(circuit);
            }
        }
        for (int kind = 0; kind <= 4; kind++) {
            for (int n = 1; n <= 4; n++) {
                opened(x, kind, n, free, slots);
            }
        }
    }

    private static void opened(SlotChip x, int kind, int n, List<Integer> free, int slots) {
        int[] want = choice(kind, n, free, slots);
        String what = "kind " + kind + ", N " + n + ", " + free + " free of " + slots;
        int circuit = x.open(kind, 0, 1, n, 1);
        if (want == null) {
            Check.due(what, circuit, -103);
            return;
        }
        Check.row(what + ", starts", place -> x.start(circuit, place), want);
        Check.due(what + ", GAP", x.circuit(circuit, 6), gapOf(want, slots));
        x.close(circuit);
    }

    private static int[] ones(int many) {
        int[] all = new int[many];
        Arrays.fill(all, 1);
        return all;
    }

    private static void startsOfAllKinds() {
        Check.sentence("2: KINDS: all sets of FREE ones, from none to all, N 1 to 4, S 4 to 8");
        for (int slots = 4; slots <= 8; slots++) {
            for (int closed = 1; closed < 1 << slots; closed++) {
                freeOnes(slots, ones(slots), closed);
            }
        }
    }

    private static void startsOfAllKindsWithTen() {
        Check.sentence("2: KINDS: sets of FREE ones, S 9 and 10");
        for (int closed = 1; closed < 256; closed++) {
            freeOnes(9, new int[] {1, 1, 1, 1, 2, 1, 1, 1}, closed);
            freeOnes(10, new int[] {1, 1, 2, 1, 1, 2, 1, 1}, closed);
            freeOnes(10, new int[] {2, 1, 1, 1, 1, 1, 1, 2}, closed);
        }
    }

    private static void startsFillAll() {
        Check.sentence("2: N STARTS (1 to 4; unlike SLOTS, 0 to S - 1)");
        for (int slots = 4; slots <= 10; slots++) {
            for (int n = 1; n <= 4; n++) {
                SlotChip x = Check.chip("2x2:" + slots);
                for (int circuit = 0; circuit < 8 && n * circuit + n <= slots; circuit++) {
                    Check.due("open", x.open(PLAIN, 0, 1, n, 1), circuit);
                    for (int place = 0; place < n; place++) {
                        Check.due("start", x.start(circuit, place), n * circuit + place);
                    }
                }
                int left = slots - n * x.count(0);
                if (x.count(0) < 8 && left < n) {
                    int its = n;
                    Check.state(x, left + " are left for " + n, () -> x.open(PLAIN, 0, 1, its, 1));
                }
            }
        }
    }

    private static void burstRound() {
        Check.sentence("2: BURST: each 1 more than the one ahead (0 behind S - 1)");
        for (int slots = 5; slots <= 10; slots++) {
            SlotChip x = Check.chip("2x2:" + slots);
            x.open(PLAIN, 0, 1, 1, 1);
            for (int left = slots - 2; left > 0; left -= 4) {
                x.open(PLAIN, 0, 1, Math.min(4, left), 1);
            }
            x.close(0);
            Check.state(x, "0 and S - 1 are no three", () -> x.open(BURST, 0, 1, 3, 1));
            Check.due("S - 1, and 0 behind it", x.open(BURST, 0, 1, 2, 1), 0);
            Check.row("the least first", place -> x.start(0, place), 0, slots - 1, -101);
            Check.due("GAP", x.circuit(0, 6), slots - 1);
            x.close(0);
            x.open(BURST, 0, 1, 1, 1);
            Check.row("of runs of one the least", place -> x.start(0, place), 0, -101);
        }
    }

    private static void gap() {
        Check.sentence("2: GAP: .. (behind the last one to the first one, round; S, if there is one)");
        for (int slots = 4; slots <= 10; slots++) {
            SlotChip x = Check.chip("3x3:" + slots);
            for (int n = 1; n <= 4; n++) {
                x.open(PLAIN, n, n + 1, n, 1);
                Check.due("N least of " + slots, x.circuit(n - 1, 6), n == 1 ? slots : slots - n + 1);
            }
            x.open(SPREAD, 6, 7, 4, 1);
            Check.due("four, spread", x.circuit(4, 6), (slots + 3) / 4);
            x.open(SPREAD, 7, 8, 2, 1);
            Check.due("two, spread", x.circuit(5, 6), (slots + 1) / 2);
            x.open(WIDE, 8, 0, 1, 1);
            Check.due("one", x.circuit(6, 6), slots);
        }
    }

    private static void promise11Kinds() {
        Check.sentence("11: its own number, not that of the KIND; NONE: it is none such");
        for (int kind = 0; kind <= 4; kind++) {
            SlotChip x = Check.chip("3x3:10");
            for (int circuit = 0; circuit < 8; circuit++) {
                x.open(kind, circuit, circuit + 1, 1, 1);
                for (int asked = 0; asked <= 4; asked++) {
                    boolean is = asked == PLAIN || asked == kind || kind == WIDE && asked == SPREAD;
                    Check.due("kind " + kind + " as " + asked, x.as(circuit, asked), is ? circuit : -1);
                }
            }
        }
    }

    private static void promise11Refusals() {
        Check.sentence("11: UNKNOWN: circuit; OUTSIDE: kind (0 to 4)");
        SlotChip x = withEight("3x3:10", 1);
        for (int kind : Check.around(0, 4)) {
            Check.outside(x, "as(7, " + kind + ")", () -> x.as(7, kind));
            Check.unknown(x, "as(8, " + kind + "), both", () -> x.as(8, kind));
        }
        for (int circuit : Check.around(0, 7)) {
            Check.unknown(x, "as(" + circuit + ", 0)", () -> x.as(circuit, 0));
            Check.unknown(x, "as(" + circuit + ", 5), both", () -> x.as(circuit, 5));
        }
        x.close(7);
        Check.unknown(x, "one that is closed", () -> x.as(7, 0));
    }

    private static void promise13Places() {
        Check.sentence("13: UNKNOWN: circuit, place (0 to HOPS + 1)");
        int[] ends = {3, 6, 7, 8, 5, 2};
        SlotChip x = Check.chip("3x3:10" + LONG_WAY);
        for (int hops = 1; hops <= 6; hops++) {
            int circuit = x.open(PLAIN, 0, ends[hops - 1], 1, 1);
            Check.due("HOPS", x.circuit(circuit, 5), hops);
            Check.due("the first one: IN of FROM", x.route(circuit, 0), 0);
            Check.due("the last one: OUT of TO", x.route(circuit, hops + 1), 6 * ends[hops - 1] + 1);
            for (int place : Check.around(0, hops + 1)) {
                Check.unknown(x, "route(" + circuit + ", " + place + ")", () -> x.route(circuit, place));
            }
        }
        for (int circuit : Check.around(0, 5)) {
            Check.unknown(x, "route(" + circuit + ", 0)", () -> x.route(circuit, 0));
            Check.unknown(x, "route(" + circuit + ", -1)", () -> x.route(circuit, -1));
        }
        x.close(5);
        Check.unknown(x, "one that is closed", () -> x.route(5, 0));
    }

    private static void promise14Places() {
        Check.sentence("14: UNKNOWN: circuit, place (0 to N - 1)");
        for (int kind = 0; kind <= 4; kind++) {
            SlotChip x = Check.chip("3x3:10");
            for (int n = 1; n <= 4; n++) {
                int circuit = x.open(kind, n, n + 1, n, 1);
                Check.due("the first one", x.start(circuit, 0), 0);
                Check.due("the last one is a slot", x.start(circuit, n - 1) >= n - 1 ? 1 : 0, 1);
                for (int place : Check.around(0, n - 1)) {
                    Check.unknown(x, "start(" + circuit + ", " + place + ")", () -> x.start(circuit, place));
                }
            }
            for (int circuit : Check.around(0, 3)) {
                Check.unknown(x, "start(" + circuit + ", 0)", () -> x.start(circuit, 0));
            }
            x.close(3);
            Check.unknown(x, "one that is closed", () -> x.start(3, 0));
        }
    }

    private static void promise14TheLeastFirst() {
        Check.sentence("14: the least first");
        SlotChip x = Check.chip("2x2:6");
        x.open(PLAIN, 0, 1, 2, 1);
        x.open(PLAIN, 0, 1, 2, 1);
        x.close(0);
        x.open(BURST, 0, 1, 4, 1);
        Check.row("4, 5, 0, 1", place -> x.start(0, place), 0, 1, 4, 5, -101);
    }

    private static void promise16Refusals() {
        Check.sentence("16: UNKNOWN");
        SlotChip x = withEight("3x3:10", 1);
        for (int circuit : Check.around(0, 7)) {
            Check.unknown(x, "move(" + circuit + ")", () -> x.move(circuit));
        }
        for (int circuit = 0; circuit < 8; circuit++) {
            Check.due("with eight there, too", x.move(circuit), x.circuit(circuit, 5));
        }
        x.close(0);
        Check.unknown(x, "one that is closed", () -> x.move(0));
    }

    private static void promise16ALetterIsUnderWay() {
        Check.sentence("16: STATE: a LETTER of it is under way");
        SlotChip x = Check.chip("3x3:10" + LONG_WAY);
        x.open(PLAIN, 0, 2, 1, 1);
        x.open(PLAIN, 2, 0, 1, 1);
        x.pair(0, 1);
        x.feed(0, 1);
        Check.due("ahead of the cycle in which it leaves", x.move(0), 6);
        for (int k = 0; k < 7; k++) {
            x.run(1);
            Check.state(x, "it was on link " + k, () -> x.move(0));
            Check.due("its back can be moved", x.move(1), x.circuit(1, 5));
        }
        Check.due("it comes", x.run(1), 1);
        Check.due("behind that cycle", x.move(0), 6);
        x.take(0, 1);
        x.run(2);
        Check.due("still ahead of the next start", x.circuit(1, 13), 0);
        x.run(1);
        Check.due("a letter of the back, with credits alone", x.circuit(1, 13), 1);
        Check.state(x, "the back", () -> x.move(1));
        Check.due("this one", x.move(0), 6);
    }

    private static void promise16NoWayThen() {
        Check.sentence("16: STATE: there is no WAY for it then");
        for (int kind : new int[] {PLAIN, SPREAD, BURST, SOLO}) {
            SlotChip x = Check.chip("3x2:4-0e");
            x.open(kind, 0, 1, 2, 3);
            x.cut(3, false);
            x.open(PLAIN, 3, 2, 3, 1);
            route("another one has three slots of the mended link", x, 1, 18, 20, 3, 9, 13);
            Check.state(x, "it needs two", () -> x.move(0));
            route("it keeps its way", x, 0, 0, 4, 21, 26, 7);
            Check.due("and its slots", x.link(21, 2), 2);
            x.close(1);
            x.open(PLAIN, 3, 2, 2, 1);
            Check.due("two are free", x.move(0), 1);
            Check.row("3, and 0 behind it", place -> x.start(0, place), 0, 3, -101);
        }
    }

    private static void promise16AsIfItWereNotThere() {
        Check.sentence("16: gets its WAY and STARTS anew, as if it were not there");
        for (int slots = 4; slots <= 10; slots++) {
            SlotChip x = Check.chip("2x2:" + slots + "-0e");
            x.open(PLAIN, 0, 1, 1, 1);
            for (int left = slots - 1; left > 0; left -= 4) {
                x.open(PLAIN, 0, 2, Math.min(4, left), 1);
            }
            Check.due("all starts of 0 are had", x.link(0, 2), slots);
            int all = x.about(5);
            for (int circuit = 0; circuit < x.count(0); circuit++) {
                Check.due("where it was", x.move(circuit), circuit == 0 ? 3 : 1);
                Check.due("about(5)", x.about(5), all);
            }
            x.cut(3, false);
            Check.due("by a new way, with the start that only it has", x.move(0), 1);
            Check.row("the same start", place -> x.start(0, place), 0, -101);
            Check.due("the old links are given back", x.link(15, 2), 0);
            Check.due("but for what others have", x.link(4, 2), slots - 1);
            Check.due("the new one is had", x.slot(3, 1), 0);
        }
    }
}
