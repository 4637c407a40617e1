/** Promises 10, 11, 13, 14 and 16: open, as, route, start, move: ways, starts and kinds. */
public final class OpenPromisesTest {
    private static final int PLAIN = 0, SPREAD = 1, WIDE = 2, BURST = 3, SOLO = 4;

    public static void main(String[] args) {
        promise10Refusals();
        promise10Numbers();
        promise10FirstWay();
        promise10OnlyWaysWithAsFewHops();
        promise10SixHopsAtMost();
        promise10NoRouterTwice();
        promise10AllLinksOfTheRoute();
        promise10Plain();
        promise10Spread();
        promise10Burst();
        promise10NoTwoMeet();
        promise11As();
        promise13Route();
        promise14Start();
        promise16Move();
        promise16MoveRefused();
        promise16MoveKeepsTheRest();
        Check.end("OpenPromisesTest");
    }

    private static void starts(String what, SlotChip x, int circuit, int... wants) {
        Check.due(what + ", N", x.circuit(circuit, 3), wants.length);
        Check.row(what + ", starts", place -> x.start(circuit, place), wants);
    }

    private static void route(String what, SlotChip x, int circuit, int... wants) {
        Check.due(what + ", HOPS", x.circuit(circuit, 5), wants.length - 2);
        Check.row(what + ", route", place -> x.route(circuit, place), wants);
    }

    private static void promise10Refusals() {
        SlotChip none = new SlotChip();
        Check.state(none, "open without a chip", () -> none.open(9, 0, 0, 0, 0));
        SlotChip x = Check.chip("2x3:5");
        for (int router : new int[] {-1, 6, 9, Integer.MAX_VALUE, Integer.MIN_VALUE}) {
            Check.unknown(x, "open from " + router, () -> x.open(0, router, 1, 1, 1));
            Check.unknown(x, "open to " + router, () -> x.open(0, 1, router, 1, 1));
            Check.unknown(x, "open to " + router + ", and all else wrong", () -> x.open(5, 1, router, 5, 16));
        }
        Check.unknown(x, "open from a router to itself", () -> x.open(0, 5, 5, 1, 1));
        for (int kind : new int[] {-1, 5, Integer.MAX_VALUE, Integer.MIN_VALUE}) {
            Check.outside(x, "open of kind " + kind, () -> x.open(kind, 0, 1, 1, 1));
        }
        for (int n : new int[] {-1, 0, 5, Integer.MAX_VALUE, Integer.MIN_VALUE}) {
            Check.outside(x, "open with N " + n, () -> x.open(0, 0, 1, n, 1));
        }
        for (int window : new int[] {-1, 0, 16, Integer.MAX_VALUE, Integer.MIN_VALUE}) {
            Check.outside(x, "open with a window of " + window, () -> x.open(0, 0, 1, 1, window));
        }
        Check.due("open with N 4, a window of 15", x.open(4, 0, 5, 4, 15), 0);
        Check.state(x, "open without starts", () -> x.open(0, 0, 1, 2, 1));
    }

    private static void promise10Numbers() {
        SlotChip x = Check.chip("3x3:10");
        for (int number = 0; number < 8; number++) {
            Check.due("open", x.open(0, number, number + 1, 1, 1), number);
        }
        Check.unknown(x, "a ninth one from nowhere", () -> x.open(0, 9, 1, 1, 1));
        Check.outside(x, "a ninth one of no kind", () -> x.open(5, 0, 1, 1, 1));
        Check.full(x, "a ninth one", () -> x.open(0, 0, 1, 1, 1));
        x.close(5);
        x.close(2);
        Check.due("the least number that is left", x.open(0, 0, 8, 1, 1), 2);
        Check.due("the next one", x.open(0, 0, 8, 1, 1), 5);
        SlotChip y = Check.chip("3x3:4");
        for (int from = 0; from < 8; from++) {
            y.open(0, from, from + 1, 4, 1);
        }
        Check.due("eight of them", y.count(0), 8);
        Check.full(y, "FULL is ahead of no way", () -> y.open(0, 0, 1, 1, 1));
        y.close(7);
        Check.state(y, "no way", () -> y.open(0, 0, 1, 1, 1));
    }

    private static void promise10FirstWay() {
        SlotChip x = Check.chip("3x3:10");
        x.open(PLAIN, 0, 8, 1, 1);
        route("0 to 8", x, 0, 0, 3, 9, 16, 34, 49);
        x.open(PLAIN, 8, 0, 1, 1);
        route("8 to 0", x, 1, 48, 50, 32, 17, 11, 1);
        x.open(PLAIN, 2, 6, 1, 1);
        route("2 to 6: SOUTH is ahead of WEST", x, 2, 12, 16, 34, 53, 47, 37);
        x.open(PLAIN, 6, 2, 1, 1);
        route("6 to 2: NORTH is ahead of EAST", x, 3, 36, 38, 20, 3, 9, 13);
        x.open(PLAIN, 4, 3, 1, 1);
        route("4 to 3", x, 4, 24, 29, 19);
        SlotChip broken = Check.chip("3x3:4-0e-3e");
        broken.open(PLAIN, 0, 8, 1, 1);
        route("0 to 8, round broken links", broken, 0, 0, 4, 22, 39, 45, 49);
        SlotChip far = Check.chip("3x3:4-0e-3e-7e-7n");
        Check.state(far, "0 to 8, no link leads there", () -> far.open(PLAIN, 0, 8, 1, 1));
        Check.state(far, "a WIDE one, too", () -> far.open(WIDE, 0, 8, 1, 1));
        SlotChip second = Check.chip("2x2:4");
        second.open(PLAIN, 2, 1, 4, 1);
        route("2 to 1 by 0", second, 0, 12, 14, 3, 7);
        Check.due("0 to 3, the second way of as few hops", second.open(PLAIN, 0, 3, 1, 1), 1);
        route("0 to 3 by 2", second, 1, 0, 4, 15, 19);
    }

    private static void promise10OnlyWaysWithAsFewHops() {
        SlotChip x = Check.chip("3x2:4");
        x.open(PLAIN, 3, 2, 4, 1);
        route("3 to 2", x, 0, 18, 20, 3, 9, 13);
        for (int kind : new int[] {PLAIN, SPREAD, BURST, SOLO}) {
            Check.state(x, "0 to 1 of kind " + kind, () -> x.open(kind, 0, 1, 1, 1));
        }
        Check.due("a WIDE one goes round", x.open(WIDE, 0, 1, 2, 1), 1);
        route("the WIDE one", x, 1, 0, 4, 21, 26, 7);
        starts("the WIDE one", x, 1, 0, 2);
        Check.due("a second one", x.open(WIDE, 0, 1, 2, 1), 2);
        starts("the second one", x, 2, 1, 3);
        Check.state(x, "a third one", () -> x.open(WIDE, 0, 1, 1, 1));
        SlotChip y = Check.chip("3x3:4");
        y.open(PLAIN, 4, 5, 4, 1);
        route("4 to 5", y, 0, 24, 27, 31);
        Check.due("3 to 8 by links that are left", y.open(WIDE, 3, 8, 4, 1), 1);
        route("3 to 8: NORTH has more hops, EAST is full", y, 1, 18, 21, 28, 45, 49);
    }

    private static void promise10SixHopsAtMost() {
        SlotChip x = Check.chip("3x3:4-0e-3e-7n-5w");
        Check.due("0 to 2 by six hops", x.open(PLAIN, 0, 2, 1, 1), 0);
        route("0 to 2", x, 0, 0, 4, 22, 39, 45, 50, 32, 13);
        Check.state(x, "0 to 1 by seven hops", () -> x.open(PLAIN, 0, 1, 1, 1));
        Check.state(x, "0 to 1 by seven hops, WIDE", () -> x.open(WIDE, 0, 1, 1, 1));
        Check.state(x, "0 to 4 by eight hops, WIDE", () -> x.open(WIDE, 0, 4, 1, 1));
        Check.row("slots of the last link", slot -> x.slot(13, slot), -1, -1, -1, 0);
        x.feed(0, 1);
        Check.due("seven cycles", x.run(7), 0);
        Check.due("the eighth one", x.run(1), 1);
    }

    /** Ways that pass a router twice would have a start here, since they have a link later than those that do not. */
    private static void promise10NoRouterTwice() {
        SlotChip x = Check.chip("2x2:4");
        x.open(PLAIN, 0, 2, 1, 1);
        x.open(PLAIN, 0, 2, 3, 1);
        x.close(0);
        x.open(PLAIN, 2, 1, 1, 1);
        x.open(PLAIN, 2, 1, 1, 1);
        x.open(PLAIN, 2, 1, 2, 1);
        x.close(2);
        Check.row("0 is the only start", slot -> x.slot(0, slot), -1, 1, 1, 1);
        Check.row("EAST of 0 has only 3", slot -> x.slot(3, slot), 3, 3, 0, -1);
        Check.due("a WIDE one goes round", x.open(WIDE, 0, 1, 1, 1), 2);
        route("not by 2 and 0 again", x, 2, 0, 4, 15, 20, 7);
        SlotChip y = Check.chip("3x2:4-3e-5w");
        y.open(PLAIN, 0, 3, 1, 1);
        y.open(PLAIN, 0, 3, 3, 1);
        y.close(0);
        y.open(PLAIN, 1, 4, 1, 1);
        y.open(PLAIN, 1, 4, 1, 1);
        y.close(0);
        Check.row("0 is the only start", slot -> y.slot(0, slot), -1, 1, 1, 1);
        Check.row("SOUTH of 1 has all but 2", slot -> y.slot(10, slot), -1, -1, 2, -1);
        Check.state(y, "not by 1, 2 and 1 again", () -> y.open(WIDE, 0, 4, 1, 1));
    }

    private static void promise10AllLinksOfTheRoute() {
        SlotChip x = Check.chip("2x2:6");
        x.open(PLAIN, 0, 1, 1, 1);
        x.open(PLAIN, 3, 1, 2, 1);
        starts("they meet only on OUT", x, 1, 1, 2);
        x.open(PLAIN, 3, 2, 1, 1);
        starts("they meet only on IN", x, 2, 0);
        x.open(PLAIN, 3, 2, 1, 1);
        starts("and the next one", x, 3, 3);
        x.open(PLAIN, 2, 1, 2, 1);
        route("2 to 1 by 0", x, 4, 12, 14, 3, 7);
        starts("on EAST of 0, 1 is had, on OUT 2, 3, 4", x, 4, 2, 3);
    }

    private static void promise10Plain() {
        SlotChip x = Check.chip("3x3:8");
        x.open(PLAIN, 0, 1, 3, 1);
        starts("the first one", x, 0, 0, 1, 2);
        x.open(SOLO, 0, 1, 2, 1);
        starts("a SOLO one", x, 1, 3, 4);
        x.close(0);
        x.open(PLAIN, 0, 1, 4, 1);
        starts("one in the gaps", x, 0, 0, 1, 2, 5);
        Check.state(x, "more than are free", () -> x.open(PLAIN, 0, 1, 3, 1));
        Check.due("as many as are free", x.open(PLAIN, 0, 1, 2, 1), 2);
        starts("the last ones", x, 2, 6, 7);
    }

    private static void promise10Spread() {
        SlotChip x = Check.chip("3x3:10");
        x.open(SPREAD, 0, 1, 3, 1);
        starts("three of ten, of like gaps the lesser start", x, 0, 0, 2, 6);
        Check.due("its GAP", x.circuit(0, 6), 4);
        x.open(WIDE, 0, 1, 2, 1);
        starts("two of those that are left", x, 1, 3, 8);
        Check.due("its GAP", x.circuit(1, 6), 5);
        x.open(SPREAD, 0, 1, 4, 1);
        starts("four of 1, 4, 5, 7, 9", x, 2, 1, 4, 7, 9);
        Check.due("its GAP", x.circuit(2, 6), 3);
        x.open(SPREAD, 0, 1, 1, 1);
        starts("the last one", x, 3, 5);
        Check.due("the GAP of one", x.circuit(3, 6), 10);
        Check.state(x, "none is left", () -> x.open(SPREAD, 0, 1, 1, 1));
        SlotChip y = Check.chip("2x2:8");
        y.open(PLAIN, 0, 1, 3, 1);
        y.open(SPREAD, 0, 1, 2, 1);
        starts("two of 3 to 7", y, 1, 3, 7);
        SlotChip z = Check.chip("2x2:7");
        z.open(SPREAD, 0, 1, 2, 1);
        starts("two of seven", z, 0, 0, 3);
        Check.due("its GAP, round", z.circuit(0, 6), 4);
        SlotChip all = Check.chip("2x2:4");
        all.open(WIDE, 0, 1, 4, 1);
        starts("four of four", all, 0, 0, 1, 2, 3);
        Check.due("its GAP", all.circuit(0, 6), 1);
    }

    private static void promise10Burst() {
        SlotChip x = Check.chip("2x2:4");
        x.open(PLAIN, 0, 1, 1, 1);
        x.open(PLAIN, 0, 1, 2, 1);
        x.close(0);
        Check.state(x, "three of 0 and 3", () -> x.open(BURST, 0, 1, 3, 1));
        Check.due("3, and 0 behind it", x.open(BURST, 0, 1, 2, 1), 0);
        starts("3, and 0 behind it", x, 0, 0, 3);
        Check.due("its GAP", x.circuit(0, 6), 3);
        SlotChip y = Check.chip("2x2:4");
        y.open(PLAIN, 0, 1, 2, 1);
        y.open(PLAIN, 0, 1, 1, 1);
        y.close(0);
        y.open(PLAIN, 0, 1, 1, 1);
        y.close(1);
        y.open(PLAIN, 0, 1, 1, 1);
        y.close(0);
        Check.row("0, 2 and 3 are free", slot -> y.slot(0, slot), -1, 1, -1, -1);
        y.open(BURST, 0, 1, 2, 1);
        starts("2 and 3 are ahead of 3 and 0", y, 0, 2, 3);
        SlotChip z = Check.chip("2x2:10");
        z.open(PLAIN, 0, 1, 1, 1);
        z.open(PLAIN, 0, 1, 4, 1);
        z.close(0);
        z.open(PLAIN, 0, 1, 1, 1);
        z.open(BURST, 0, 1, 4, 1);
        starts("four in a row", z, 2, 5, 6, 7, 8);
        Check.state(z, "two of 9", () -> z.open(BURST, 0, 1, 2, 1));
        z.open(BURST, 0, 1, 1, 1);
        starts("one in a row", z, 3, 9);
        SlotChip all = Check.chip("2x2:4");
        all.open(BURST, 0, 1, 4, 1);
        starts("four of four", all, 0, 0, 1, 2, 3);
        SlotChip way = Check.chip("2x2:4");
        way.open(SPREAD, 2, 1, 2, 1);
        starts("2 to 1 by 0", way, 0, 0, 2);
        way.open(BURST, 0, 3, 2, 1);
        route("a BURST takes the second way, if the first has no run for it", way, 1, 0, 4, 15, 19);
        starts("and its starts", way, 1, 0, 1);
    }

    /** All slots by all circuits: each has just those that its starts and its route say. */
    private static void promise10NoTwoMeet() {
        int[][] owner = new int[54][7];
        for (int[] row : owner) {
            java.util.Arrays.fill(row, -1);
        }
        SlotChip x = eightUnlike();
        for (int c = 0; c < x.count(0); c++) {
            for (int place = 0; place < x.circuit(c, 5) + 2; place++) {
                for (int start = 0; start < x.circuit(c, 3); start++) {
                    int link = x.route(c, place);
                    int slot = (x.start(c, start) + place) % 7;
                    Check.due("a slot is had by none ahead of it", owner[link][slot], -1);
                    owner[link][slot] = c;
                }
            }
        }
        SlotChip again = eightUnlike();
        for (int link = 0; link < 54; link++) {
            boolean there = again.link(link, 0) != -101;
            for (int slot = 0; slot < 7 && there; slot++) {
                Check.due("slot(" + link + ", " + slot + ")", again.slot(link, slot), owner[link][slot]);
            }
        }
    }

    private static SlotChip eightUnlike() {
        SlotChip x = Check.chip("3x3:7-4e-1w");
        int[][] calls = {{0, 0, 8, 2, 1}, {1, 8, 0, 2, 1}, {2, 3, 5, 3, 1}, {3, 1, 7, 2, 1}, {4, 7, 1, 1, 1},
            {2, 3, 5, 2, 1}, {0, 0, 4, 1, 1}, {1, 6, 2, 2, 1}};
        for (int[] call : calls) {
            x.open(call[0], call[1], call[2], call[3], call[4]);
        }
        return x;
    }

    private static void promise11As() {
        SlotChip x = Check.chip("3x3:10");
        for (int kind = 0; kind <= 4; kind++) {
            x.open(kind, 0, 1, 1, 1);
        }
        Check.row("a PLAIN one as", kind -> x.as(0, kind), 0, -1, -1, -1, -1);
        Check.row("a SPREAD one as", kind -> x.as(1, kind), 1, 1, -1, -1, -1);
        Check.row("a WIDE one as", kind -> x.as(2, kind), 2, 2, 2, -1, -1);
        Check.row("a BURST one as", kind -> x.as(3, kind), 3, -1, -1, 3, -1);
        Check.row("a SOLO one as", kind -> x.as(4, kind), 4, -1, -1, -1, 4);
        for (int circuit : new int[] {-1, 5, 8, Integer.MAX_VALUE, Integer.MIN_VALUE}) {
            Check.unknown(x, "as(" + circuit + ", 0)", () -> x.as(circuit, 0));
            Check.unknown(x, "as(" + circuit + ", 5)", () -> x.as(circuit, 5));
        }
        for (int kind : new int[] {-1, 5, Integer.MAX_VALUE, Integer.MIN_VALUE}) {
            Check.outside(x, "as(2, " + kind + ")", () -> x.as(2, kind));
        }
    }

    private static void promise13Route() {
        SlotChip x = Check.chip("2x3:6");
        x.open(PLAIN, 5, 0, 1, 1);
        Check.row("route(0, ..)", place -> x.route(0, place), 30, 32, 20, 11, 1, -101);
        for (int place : new int[] {-1, 5, 7, 8, Integer.MAX_VALUE, Integer.MIN_VALUE}) {
            Check.unknown(x, "route(0, " + place + ")", () -> x.route(0, place));
        }
        for (int circuit : new int[] {-1, 1, 8, Integer.MAX_VALUE, Integer.MIN_VALUE}) {
            Check.unknown(x, "route(" + circuit + ", 0)", () -> x.route(circuit, 0));
        }
    }

    private static void promise14Start() {
        SlotChip x = Check.chip("2x3:6");
        x.open(SPREAD, 5, 0, 2, 1);
        Check.row("start(0, ..)", place -> x.start(0, place), 0, 3, -101);
        for (int place : new int[] {-1, 2, 4, Integer.MAX_VALUE, Integer.MIN_VALUE}) {
            Check.unknown(x, "start(0, " + place + ")", () -> x.start(0, place));
        }
        for (int circuit : new int[] {-1, 1, 8, Integer.MAX_VALUE, Integer.MIN_VALUE}) {
            Check.unknown(x, "start(" + circuit + ", 0)", () -> x.start(circuit, 0));
        }
    }

    private static void promise16Move() {
        SlotChip x = Check.chip("2x2:4-0e");
        x.open(PLAIN, 0, 1, 4, 1);
        route("round", x, 0, 0, 4, 15, 20, 7);
        x.cut(3, false);
        Check.due("move to a shorter way, by the slots that it has itself", x.move(0), 1);
        route("then", x, 0, 0, 3, 7);
        Check.due("the slots of the old way are free", x.link(15, 2), 0);
        Check.due("those of the new one are had", x.link(3, 2), 4);
        Check.due("move again", x.move(0), 1);
        Check.due("about(5)", x.about(5), 12);
        SlotChip y = Check.chip("2x2:8");
        y.open(PLAIN, 0, 1, 2, 1);
        y.open(SPREAD, 0, 1, 2, 1);
        starts("a SPREAD one", y, 1, 2, 6);
        y.close(0);
        Check.due("move", y.move(1), 1);
        starts("as if it were not there", y, 1, 0, 4);
        Check.row("slots", slot -> y.slot(3, slot), -1, 1, -1, -1, -1, 1, -1, -1);
    }

    private static void promise16MoveRefused() {
        SlotChip x = Check.chip("3x2:4-0e");
        x.open(PLAIN, 0, 1, 1, 3);
        x.open(WIDE, 0, 1, 1, 3);
        x.cut(3, false);
        Check.due("another one fills the mended link", x.open(PLAIN, 3, 2, 4, 1), 2);
        route("another one", x, 2, 18, 20, 3, 9, 13);
        Check.state(x, "the way with the fewest hops has no starts", () -> x.move(0));
        route("it keeps its way", x, 0, 0, 4, 21, 26, 7);
        Check.row("it keeps its slots", slot -> x.slot(4, slot), -1, 0, 1, -1);
        Check.due("a WIDE one can have a longer way", x.move(1), 3);
        x.feed(1, 1);
        x.run(2);
        Check.due("a letter is under way", x.circuit(1, 13), 1);
        Check.state(x, "move with a letter under way", () -> x.move(1));
        x.run(5);
        Check.due("move when it came", x.move(1), 3);
        for (int circuit : new int[] {-1, 3, 8, Integer.MAX_VALUE, Integer.MIN_VALUE}) {
            Check.unknown(x, "move(" + circuit + ")", () -> x.move(circuit));
        }
    }

    private static void promise16MoveKeepsTheRest() {
        SlotChip x = Check.chip("2x2:4-0e");
        x.run(3);
        x.open(PLAIN, 0, 1, 1, 3);
        x.open(PLAIN, 1, 0, 1, 3);
        x.pair(0, 1);
        x.feed(0, 5);
        x.run(40);
        x.take(0, 2);
        x.cut(3, false);
        Check.row("ahead of move", what -> x.circuit(0, what), 0, 0, 1, 1, 3, 3, 4, 1, 2, 0, 1, 2, 3, 0, 3);
        Check.due("move", x.move(0), 1);
        Check.row("behind move", what -> x.circuit(0, what), 0, 0, 1, 1, 3, 1, 4, 1, 2, 0, 1, 2, 3, 0, 3);
    }
}
