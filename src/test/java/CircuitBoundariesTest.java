/** The boundary cases of promises 12, 15, 17 to 20, and of LETTERS, sentence by sentence. */
public final class CircuitBoundariesTest {
    private static final int[] NO_MANY = Check.around(1, 99);
    /** 0 to 2 by six hops, and 2 to 0 by six: all links between 0 and 1, 3 and 4, 4 and 7, 4 and 5 are broken. */
    private static final String RING = "-0e-1w-3e-4w-7n-4s-5w-4e";

    public static void main(String[] args) {
        promise12What();
        promise12Circuits();
        promise12AtFirst();
        promise12UnderWay();
        promise12Opened();
        promise15Unknown();
        promise15State();
        promise15Hops();
        promise15LettersUnderWay();
        promise15OwedFromBefore();
        promise17Refusals();
        promise17ALetterIsUnderWay();
        promise17Queue();
        promise17ItsBackHasNone();
        promise18Many();
        promise18Full();
        promise18Several();
        promise19Many();
        promise19NotSoMuch();
        promise19Several();
        promise19MoreThanOnce();
        promise20NoCircuits();
        promise20NoCycles();
        promise20OfLikeOnes();
        promise20NotCut();
        letterLeavesOrNot();
        letterTellsThreeAtMost();
        letterOfEachStart();
        letterOnEachLink();
        windowIsAllThatGoes();
        Check.end("CircuitBoundariesTest");
    }

    private static SlotChip withEight() {
        SlotChip x = Check.chip("3x3:10");
        for (int circuit = 0; circuit < 8; circuit++) {
            Check.due("one of eight", x.open(0, circuit, circuit + 1, 1, 15), circuit);
        }
        return x;
    }

    /** 0 to 1 and back, of one hop each, so many starts of four. */
    private static SlotChip paired(int n, int window, int otherN, int otherWindow) {
        SlotChip x = Check.chip("2x2:4");
        x.open(0, 0, 1, n, window);
        x.open(0, 1, 0, otherN, otherWindow);
        Check.due("pair", x.pair(0, 1), 2);
        return x;
    }

    private static void promise12What() {
        Check.sentence("12: OUTSIDE: what (0 to 14)");
        SlotChip x = withEight();
        for (int what : Check.around(0, 14)) {
            Check.outside(x, "circuit(0, " + what + ")", () -> x.circuit(0, what));
            Check.outside(x, "circuit(7, " + what + ")", () -> x.circuit(7, what));
        }
        x.run(3);
        x.close(7);
        x.open(4, 3, 5, 2, 15);
        Check.due("the first one", x.circuit(7, 0), 4);
        Check.due("the last one", x.circuit(7, 14), 3);
    }

    private static void promise12Circuits() {
        Check.sentence("12: UNKNOWN, ahead of OUTSIDE");
        SlotChip x = withEight();
        for (int circuit : Check.around(0, 7)) {
            Check.unknown(x, "circuit(" + circuit + ", 0)", () -> x.circuit(circuit, 0));
            Check.unknown(x, "circuit(" + circuit + ", 15), both", () -> x.circuit(circuit, 15));
        }
        Check.row("FROM of each of eight", circuit -> x.circuit(circuit, 1), 0, 1, 2, 3, 4, 5, 6, 7, -101);
        x.close(3);
        Check.row("one is closed", circuit -> x.circuit(circuit, 1), 0, 1, 2, -101, 4, 5, 6, 7, -101);
        Check.unknown(x, "both", () -> x.circuit(3, 15));
    }

    private static void promise12AtFirst() {
        Check.sentence("3: CREDITS (at first as many as its WINDOW); all else 0, no BACK");
        for (int window = 1; window <= 15; window += 7) {
            SlotChip x = Check.chip("2x3:9");
            x.run(5);
            x.open(2, 0, 5, 3, window);
            Check.row("a new one", what -> x.circuit(0, what), 2, 0, 5, 3, window, 3, 3, -1, 0, window, 0, 0, 0, 0, 5,
                -102);
        }
    }

    private static void promise12UnderWay() {
        Check.sentence("12: 13 how many LETTERS of it are under way");
        SlotChip x = Check.chip("3x3:4" + RING);
        x.open(0, 0, 2, 4, 15);
        x.feed(0, 15);
        for (int cycle = 1; cycle <= 7; cycle++) {
            Check.due("none came yet", x.run(1), 0);
            Check.due("one left in each cycle", x.circuit(0, 13), cycle);
        }
        for (int cycle = 8; cycle <= 15; cycle++) {
            Check.due("one came", x.run(1), 1);
            Check.due("one is on each link but the last", x.circuit(0, 13), 7);
        }
        for (int left = 6; left >= 0; left--) {
            Check.due("the rest comes", x.run(1), 1);
            Check.due("fewer are under way", x.circuit(0, 13), left);
        }
        Check.due("no more", x.run(40), 0);
    }

    private static void promise12Opened() {
        Check.sentence("12: 14 the TIME when it was opened");
        SlotChip x = Check.chip("2x2:4");
        x.open(0, 0, 1, 1, 1);
        x.run(1);
        x.open(0, 0, 1, 1, 1);
        x.run(40);
        x.open(0, 0, 1, 1, 1);
        Check.row("opened", circuit -> x.circuit(circuit, 14), 0, 1, 41, -101);
        x.run(2);
        x.move(1);
        x.close(0);
        x.open(0, 0, 1, 1, 1);
        Check.row("moved and opened again", circuit -> x.circuit(circuit, 14), 43, 1, 41, -101);
    }

    private static void promise15Unknown() {
        Check.sentence("15: UNKNOWN: one, other (unlike), ahead of STATE");
        SlotChip x = withEight();
        for (int circuit : Check.around(0, 7)) {
            Check.unknown(x, "pair(0, " + circuit + ")", () -> x.pair(0, circuit));
            Check.unknown(x, "pair(" + circuit + ", 7)", () -> x.pair(circuit, 7));
            Check.unknown(x, "pair of two such", () -> x.pair(circuit, circuit));
        }
        for (int circuit = 0; circuit < 8; circuit++) {
            int same = circuit;
            Check.unknown(x, "one with itself", () -> x.pair(same, same));
        }
        x.close(6);
        x.close(7);
        x.open(0, 1, 0, 1, 1);
        x.open(0, 8, 7, 1, 1);
        Check.due("the first one and one of the last", x.pair(0, 6), 2);
        x.close(7);
        Check.unknown(x, "one that has a back, and none", () -> x.pair(0, 7));
        Check.unknown(x, "none, and one that has a back", () -> x.pair(7, 6));
        Check.unknown(x, "one that has a back, with itself", () -> x.pair(6, 6));
    }

    private static void promise15State() {
        Check.sentence("15: STATE: one has a BACK, or they do not go so");
        SlotChip x = Check.chip("2x2:10");
        int[][] ends = {{0, 3}, {3, 0}, {3, 0}, {0, 3}, {0, 1}, {1, 0}, {3, 1}, {2, 0}};
        for (int[] end : ends) {
            x.open(0, end[0], end[1], 1, 1);
        }
        Check.state(x, "both go the same way", () -> x.pair(0, 3));
        Check.due("a pair", x.pair(0, 1), 4);
        Check.state(x, "the same pair", () -> x.pair(0, 1));
        Check.state(x, "the other way about", () -> x.pair(1, 0));
        Check.state(x, "the first one has a back", () -> x.pair(0, 2));
        Check.state(x, "the other one has a back", () -> x.pair(2, 0));
        Check.state(x, "the first one has a back, and they do not go so", () -> x.pair(0, 4));
        Check.state(x, "they start at one router", () -> x.pair(3, 4));
        Check.state(x, "they end at one router", () -> x.pair(5, 7));
        Check.state(x, "one goes on where the other one ends", () -> x.pair(4, 6));
        Check.state(x, "FROM fits, TO does not", () -> x.pair(3, 6));
        Check.state(x, "TO fits, FROM does not", () -> x.pair(3, 7));
        Check.due("the first of another pair", x.pair(3, 2), 4);
        Check.due("and one more", x.pair(5, 4), 2);
        Check.row("BACKS", circuit -> x.circuit(circuit, 7), 1, 0, 3, 2, 5, 4, -1, -1);
    }

    private static void promise15Hops() {
        Check.sentence("15: Two CIRCUITS are paired: HOPS of both");
        SlotChip one = Check.chip("2x2:4");
        one.open(0, 2, 3, 1, 1);
        one.open(2, 3, 2, 1, 1);
        Check.due("one and one", one.pair(1, 0), 2);
        SlotChip six = Check.chip("3x3:4" + RING);
        six.open(0, 0, 2, 1, 1);
        six.open(4, 2, 0, 1, 1);
        Check.due("six and six", six.pair(0, 1), 12);
        SlotChip both = Check.chip("3x3:4-0e-3e-7n-5w");
        both.open(0, 0, 2, 1, 1);
        both.open(0, 2, 0, 1, 1);
        Check.due("six and two", both.pair(0, 1), 8);
    }

    private static void promise15LettersUnderWay() {
        Check.sentence("15: Two CIRCUITS are paired (a LETTER under way is no reason to refuse it)");
        SlotChip x = Check.chip("2x2:4");
        x.open(0, 0, 1, 4, 3);
        x.open(0, 1, 0, 4, 4);
        x.feed(0, 5);
        x.feed(1, 6);
        x.run(2);
        Check.row("under way", circuit -> x.circuit(circuit, 13), 2, 2);
        Check.due("pair(0, 1)", x.pair(0, 1), 2);
        Check.row("the first one, but for its BACK as before", what -> x.circuit(0, 7 + what), 1, 3, 1, 0, 0, 0, 2, 0);
        Check.row("and the other one", what -> x.circuit(1, 7 + what), 0, 4, 2, 0, 0, 0, 2, 0);
        Check.due("they come", x.run(4), 7);
        Check.row("the first one then", what -> x.circuit(0, 8 + what), 2, 0, 3, 0, 3, 0);
    }

    private static void promise15OwedFromBefore() {
        Check.sentence("3: OWED of its BACK (also what was TAKEN ahead of pair())");
        for (int first = 0; first <= 1; first++) {
            SlotChip x = Check.chip("2x2:4");
            x.open(0, 0, 1, 4, 5);
            x.open(0, 1, 0, 4, 6);
            x.feed(0, 9);
            x.feed(1, 9);
            Check.due("as much as the WINDOWS", x.run(12), 11);
            x.take(0, 2);
            x.take(1, 4);
            x.run(8);
            Check.row("without a BACK it waits", circuit -> x.circuit(circuit, 11), 2, 4);
            x.pair(first, 1 - first);
            Check.row("as before", what -> x.circuit(0, 8 + what), 4, 0, 3, 2, 5, 0);
            Check.row("the other one, too", what -> x.circuit(1, 8 + what), 3, 0, 2, 4, 6, 0);
            Check.due("letters with OWED alone bring nothing", x.run(3), 0);
            Check.row("told by one letter", what -> x.circuit(0, 8 + what), 4, 2, 3, 0, 5, 1);
            Check.row("told by two", what -> x.circuit(1, 8 + what), 3, 3, 2, 0, 6, 0);
            Check.due("then the QUEUES go on", x.run(9), 5);
            Check.row("QUEUES", circuit -> x.circuit(circuit, 8), 2, 0);
        }
    }

    private static void promise17Refusals() {
        Check.sentence("17: UNKNOWN");
        SlotChip x = withEight();
        for (int circuit : Check.around(0, 7)) {
            Check.unknown(x, "close(" + circuit + ")", () -> x.close(circuit));
        }
        for (int circuit = 7; circuit >= 0; circuit--) {
            int its = circuit;
            Check.due("close", x.close(circuit), 0);
            Check.unknown(x, "close again", () -> x.close(its));
            Check.due("count(0)", x.count(0), circuit);
        }
    }

    private static void promise17ALetterIsUnderWay() {
        Check.sentence("17: STATE: a LETTER of it or of its BACK is under way");
        SlotChip x = Check.chip("3x3:4" + RING);
        x.open(0, 0, 2, 1, 1);
        x.open(0, 2, 0, 1, 1);
        x.open(0, 8, 7, 1, 1);
        x.pair(0, 1);
        x.feed(0, 2);
        for (int k = 0; k < 7; k++) {
            x.run(1);
            Check.state(x, "its letter was on link " + k, () -> x.close(0));
            Check.state(x, "a letter of its back was on link " + k, () -> x.close(1));
        }
        Check.due("another one", x.close(2), 0);
        Check.due("it comes", x.run(1), 1);
        x.take(0, 1);
        x.run(1);
        Check.due("a letter with credits alone", x.circuit(1, 13), 1);
        Check.state(x, "of it", () -> x.close(1));
        Check.state(x, "of its back", () -> x.close(0));
        x.run(7);
        Check.due("the credit came, and the next letter waits", x.count(1), 0);
        Check.due("close of the back", x.close(1), 0);
        Check.due("close", x.close(0), 1);
        SlotChip alone = Check.chip("2x2:4");
        alone.open(0, 0, 1, 1, 1);
        alone.open(0, 1, 0, 1, 1);
        alone.feed(0, 1);
        alone.run(1);
        Check.due("one that is no back", alone.close(1), 0);
        Check.state(alone, "one without a back", () -> alone.close(0));
    }

    private static void promise17Queue() {
        Check.sentence("17: what was in its QUEUE");
        for (int queue : new int[] {0, 1, 99}) {
            SlotChip x = Check.chip("2x2:4");
            x.open(0, 0, 1, 1, 1);
            if (queue > 0) {
                x.feed(0, queue);
            }
            Check.due("close", x.close(0), queue);
            Check.due("count(3)", x.count(3), 0);
            x.open(0, 0, 1, 1, 1);
            Check.due("the next one of that number has none", x.circuit(0, 8), 0);
        }
    }

    private static void promise17ItsBackHasNone() {
        Check.sentence("17: its BACK has none then");
        for (int closed = 0; closed <= 1; closed++) {
            SlotChip x = paired(1, 4, 1, 5);
            int left = 1 - closed;
            Check.due("close", x.close(closed), 0);
            Check.due("BACK of the other one", x.circuit(left, 7), -1);
            x.open(0, left == 0 ? 1 : 0, left == 0 ? 0 : 1, 1, 2);
            Check.due("a new one of that number is no back", x.circuit(left, 7), -1);
            Check.due("nor has one", x.circuit(closed, 7), -1);
            x.feed(left, 1);
            x.run(8);
            x.take(left, 1);
            x.run(8);
            Check.due("what is owed stays", x.circuit(left, 11), 1);
            Check.due("they can be paired", x.pair(0, 1), 2);
            x.run(8);
            Check.due("and it is told", x.circuit(left, 11), 0);
        }
    }

    private static void promise18Many() {
        Check.sentence("18: OUTSIDE: many (1 to 99)");
        for (int many = 1; many <= 99; many++) {
            SlotChip x = Check.chip("2x2:4");
            x.open(0, 0, 1, 1, 1);
            Check.due("feed(0, " + many + ")", x.feed(0, many), many);
            Check.due("QUEUE", x.circuit(0, 8), many);
        }
        SlotChip x = withEight();
        for (int many : NO_MANY) {
            Check.outside(x, "feed(7, " + many + ")", () -> x.feed(7, many));
        }
    }

    private static void promise18Full() {
        Check.sentence("18: FULL: above 99");
        for (int has = 1; has <= 99; has++) {
            SlotChip x = Check.chip("2x2:4");
            x.open(0, 0, 1, 1, 1);
            x.feed(0, has);
            int tooMuch = 100 - has;
            Check.full(x, "100 in all", () -> x.feed(0, tooMuch));
            if (has < 99) {
                Check.due("99 in all", x.feed(0, 99 - has), 99);
            }
            Check.full(x, "one more", () -> x.feed(0, 1));
            Check.full(x, "99 more", () -> x.feed(0, 99));
        }
        SlotChip x = Check.chip("2x2:4");
        x.open(0, 0, 1, 1, 1);
        x.feed(0, 99);
        x.run(1);
        Check.due("one left", x.feed(0, 1), 99);
    }

    private static void promise18Several() {
        Check.sentence("18: UNKNOWN, OUTSIDE, FULL");
        SlotChip x = Check.chip("2x2:4");
        x.open(0, 0, 1, 1, 1);
        x.feed(0, 99);
        for (int many : NO_MANY) {
            Check.outside(x, "feed(0, " + many + ") with a full queue", () -> x.feed(0, many));
            Check.unknown(x, "feed(1, " + many + ")", () -> x.feed(1, many));
        }
        for (int circuit : Check.around(0, 0)) {
            Check.unknown(x, "feed(" + circuit + ", 1)", () -> x.feed(circuit, 1));
            Check.unknown(x, "feed(" + circuit + ", 0)", () -> x.feed(circuit, 0));
        }
        x.close(0);
        Check.unknown(x, "one that is closed", () -> x.feed(0, 99));
    }

    private static void promise19Many() {
        Check.sentence("19: OUTSIDE: many (1 to 99)");
        SlotChip x = paired(4, 15, 1, 1);
        x.feed(0, 15);
        x.run(40);
        for (int many : NO_MANY) {
            Check.outside(x, "take(0, " + many + ")", () -> x.take(0, many));
        }
        Check.due("the least", x.take(0, 1), 14);
        Check.state(x, "the most is allowed, but not there", () -> x.take(0, 99));
    }

    private static void promise19NotSoMuch() {
        Check.sentence("19: STATE: there is not so much");
        for (int window = 1; window <= 15; window++) {
            SlotChip x = paired(4, window, 1, 1);
            Check.state(x, "none came", () -> x.take(0, 1));
            x.feed(0, 20);
            x.run(40);
            int most = window;
            Check.due("COME", x.circuit(0, 10), window);
            Check.state(x, "one more than came", () -> x.take(0, most + 1));
            Check.due("all that came", x.take(0, window), 0);
            Check.due("OWED", x.circuit(0, 11), window);
            Check.due("DONE", x.circuit(0, 12), window);
            Check.state(x, "none is left", () -> x.take(0, 1));
        }
    }

    private static void promise19Several() {
        Check.sentence("19: UNKNOWN, OUTSIDE, STATE");
        SlotChip x = Check.chip("2x2:4");
        x.open(0, 0, 1, 1, 1);
        for (int many : NO_MANY) {
            Check.outside(x, "take(0, " + many + ") of none", () -> x.take(0, many));
            Check.unknown(x, "take(1, " + many + ")", () -> x.take(1, many));
        }
        for (int circuit : Check.around(0, 0)) {
            Check.unknown(x, "take(" + circuit + ", 1)", () -> x.take(circuit, 1));
            Check.unknown(x, "take(" + circuit + ", 100)", () -> x.take(circuit, 100));
        }
        x.feed(0, 1);
        x.run(9);
        x.close(0);
        Check.unknown(x, "one that is closed", () -> x.take(0, 1));
    }

    private static void promise19MoreThanOnce() {
        Check.sentence("3: OWED (what was TAKEN and is not told back)");
        SlotChip x = Check.chip("2x2:4");
        x.open(0, 0, 1, 4, 15);
        x.feed(0, 15);
        x.run(20);
        for (int taken = 1; taken <= 15; taken++) {
            Check.due("take(0, 1)", x.take(0, 1), 15 - taken);
            Check.due("without a back all of it is owed", x.circuit(0, 11), taken);
        }
        Check.due("close", x.close(0), 0);
        x.open(0, 0, 1, 4, 2);
        Check.row("a new one of that number has none", what -> x.circuit(0, 8 + what), 0, 2, 0, 0, 0, 0, 20);
        x.feed(0, 2);
        x.run(20);
        x.take(0, 1);
        Check.row("then", what -> x.circuit(0, 8 + what), 0, 0, 1, 1, 2, 0, 20);
        x.close(0);
        x.open(0, 0, 1, 4, 2);
        Check.row("nor the next one, with COME and OWED left", what -> x.circuit(0, 8 + what), 0, 2, 0, 0, 0, 0, 40);
    }

    private static void promise20NoCircuits() {
        Check.sentence("20: NONE: there are none");
        SlotChip none = new SlotChip();
        Check.due("without a chip", none.fastest(), -1);
        SlotChip x = withEight();
        Check.due("with eight", x.fastest(), 0);
        for (int circuit = 0; circuit < 8; circuit++) {
            Check.due("the least of those that are left", x.fastest(), circuit);
            x.close(circuit);
        }
        Check.due("without a circuit", x.fastest(), -1);
    }

    private static void promise20NoCycles() {
        Check.sentence("3: SPEED: .. (0, if there were none)");
        SlotChip x = Check.chip("2x2:4");
        x.open(0, 0, 1, 1, 1);
        x.open(0, 1, 0, 1, 1);
        x.feed(1, 1);
        x.run(8);
        x.close(0);
        x.open(0, 0, 1, 1, 1);
        Check.due("0 without cycles is less than 1 in 8", x.fastest(), 1);
        x.close(1);
        x.open(0, 1, 0, 1, 1);
        Check.due("0 without cycles and 0 without cycles", x.fastest(), 0);
        x.run(1);
        x.close(0);
        x.open(0, 0, 1, 1, 1);
        Check.due("0 without cycles and 0 in 1", x.fastest(), 0);
    }

    private static void promise20OfLikeOnes() {
        Check.sentence("20: of like ones the least");
        SlotChip x = Check.chip("3x3:4");
        for (int circuit = 0; circuit < 8; circuit++) {
            x.open(0, circuit, circuit + 1, 1, 4);
            x.feed(circuit, 1);
        }
        x.run(12);
        Check.due("1 in 12 each", x.fastest(), 0);
        x.feed(7, 1);
        x.feed(3, 1);
        x.run(12);
        Check.due("2 in 24 twice", x.fastest(), 3);
        x.feed(7, 1);
        x.run(12);
        Check.due("3 in 36", x.fastest(), 7);
        x.feed(0, 2);
        x.run(12);
        Check.due("3 in 48 twice", x.fastest(), 0);
    }

    private static void promise20NotCut() {
        Check.sentence("3: SPEED: DONE, divided by the CYCLES since it was opened, not cut");
        SlotChip x = Check.chip("2x2:4");
        x.open(0, 0, 1, 1, 9);
        x.run(1);
        x.open(0, 1, 0, 1, 9);
        x.feed(0, 9);
        x.feed(1, 9);
        x.run(40);
        x.run(3);
        Check.row("DONE", circuit -> x.circuit(circuit, 12), 9, 9);
        Check.due("9 in 44 is less than 9 in 43", x.fastest(), 1);
        SlotChip y = Check.chip("2x2:4");
        y.open(0, 0, 1, 1, 9);
        y.open(0, 1, 0, 1, 9);
        y.feed(0, 1);
        y.feed(1, 2);
        y.run(40);
        Check.due("1 in 40 is less than 2 in 40", y.fastest(), 1);
        SlotChip z = Check.chip("2x2:4");
        z.run(20);
        z.open(0, 0, 1, 1, 9);
        z.open(0, 1, 0, 1, 9);
        z.feed(0, 1);
        z.run(12);
        z.close(1);
        z.open(0, 1, 0, 1, 9);
        z.feed(1, 1);
        z.run(12);
        Check.due("1 in 24 is less than 1 in 12", z.fastest(), 1);
        z.feed(0, 1);
        z.run(12);
        Check.due("2 in 36 is more than 1 in 24", z.fastest(), 0);
        Check.due("1 in 4000 is less than 1 in 3999", fastestOfOneEach(1, 1), 1);
        Check.due("2 in 4000 is more than 1 in 3999", fastestOfOneEach(2, 1), 0);
        Check.due("1 in 4000 is less than 2 in 3999", fastestOfOneEach(1, 2), 1);
    }

    /** The fastest one of two at TIME 4000, by what each was fed, the second one opened a cycle behind the first. */
    private static int fastestOfOneEach(int first, int second) {
        SlotChip x = Check.chip("2x2:4");
        x.open(0, 0, 1, 1, 9);
        x.run(1);
        x.open(0, 1, 0, 1, 9);
        x.feed(0, first);
        x.feed(1, second);
        x.run(39);
        for (int many = 1; many < 100; many++) {
            x.run(40);
        }
        return x.fastest();
    }

    private static void letterLeavesOrNot() {
        Check.sentence("3: if its QUEUE is not 0, nor its CREDITS, or if OWED of its BACK is not 0, a LETTER leaves");
        SlotChip x = paired(1, 1, 1, 2);
        x.run(4);
        Check.due("QUEUE 0, OWED 0", x.count(1) + x.link(0, 3) + x.link(6, 3), 0);
        x.feed(0, 2);
        x.run(1);
        Check.row("QUEUE 2, CREDITS 1", what -> x.circuit(0, 8 + what), 1, 0, 0, 0, 0, 1);
        x.run(7);
        Check.row("QUEUE 1, CREDITS 0: none leaves", what -> x.circuit(0, 8 + what), 1, 0, 1, 0, 1, 0);
        x.take(0, 1);
        x.run(1);
        Check.row("OWED 1: the back's letter leaves", what -> x.circuit(1, 8 + what), 0, 2, 0, 0, 0, 1);
        Check.row("it has what was OWED", what -> x.circuit(0, 8 + what), 1, 0, 0, 0, 1, 0);
        x.run(2);
        Check.row("it came", what -> x.circuit(0, 8 + what), 1, 1, 0, 0, 1, 0);
        x.feed(1, 3);
        x.run(8);
        x.feed(0, 1);
        Check.row("the back: CREDITS 0, QUEUE 1", what -> x.circuit(1, 8 + what), 1, 0, 2, 0, 2, 0);
        x.take(0, 1);
        x.run(2);
        Check.row("a letter with OWED alone, QUEUE stays", what -> x.circuit(1, 8 + what), 1, 0, 2, 0, 2, 1);
        x.run(2);
        Check.due("QUEUE of the other one", x.circuit(0, 8), 1);
        x.take(1, 2);
        x.run(2);
        Check.row("a letter with both", what -> x.circuit(0, 8 + what), 0, 0, 0, 0, 2, 1);
        Check.due("told", x.circuit(1, 11), 0);
    }

    private static void letterTellsThreeAtMost() {
        Check.sentence("3: with as much of OWED of its BACK as there is, 3 at most");
        for (int owed = 1; owed <= 15; owed++) {
            SlotChip x = paired(4, 15, 1, 1);
            x.feed(0, 15);
            x.run(20);
            x.take(0, owed);
            for (int left = owed; left > 0; left -= Math.min(3, left)) {
                Check.due("OWED", x.circuit(0, 11), left);
                Check.due("CREDITS", x.circuit(0, 9), owed - left);
                x.run(1);
                Check.due("OWED behind the cycle", x.circuit(0, 11), Math.max(0, left - 3));
                x.run(1);
                Check.due("CREDITS a cycle ahead", x.circuit(0, 9), owed - left);
                x.run(1);
                Check.due("CREDITS when it came", x.circuit(0, 9), owed - left + Math.min(3, left));
                x.run(1);
            }
            Check.due("none is under way", x.count(1), 0);
        }
    }

    private static void letterOfEachStart() {
        Check.sentence("3: one of whose STARTS is the rest of TIME by S");
        for (int slots = 4; slots <= 10; slots++) {
            for (int start = 0; start < Math.min(8, slots); start++) {
                SlotChip x = Check.chip("2x2:" + slots);
                for (int circuit = 0; circuit <= start; circuit++) {
                    x.open(0, 0, 1, 1, 15);
                }
                x.feed(start, 9);
                for (int time = 0; time < 2 * slots + 2; time++) {
                    int left = 9 - x.circuit(start, 8);
                    x.run(1);
                    int want = left + (time % slots == start ? 1 : 0);
                    Check.due("cycle " + time + ", start " + start + " of " + slots, 9 - x.circuit(start, 8), want);
                }
            }
        }
    }

    private static void letterOnEachLink() {
        Check.sentence("3: in CYCLE T plus K on LINK K; at the end of the CYCLE in which it is on the last one it has come");
        SlotChip x = Check.chip("3x3:4" + RING);
        x.open(0, 0, 2, 1, 1);
        x.feed(0, 1);
        for (int k = 0; k < 8; k++) {
            Check.due("it comes behind the last one", x.run(1), k == 7 ? 1 : 0);
            int now = k;
            for (int place = 0; place < 8; place++) {
                Check.due("cycle " + now + ", link " + place, x.link(x.route(0, place), 3), place <= now ? 1 : 0);
            }
            Check.due("under way", x.circuit(0, 13), k == 7 ? 0 : 1);
            Check.due("COME", x.circuit(0, 10), k == 7 ? 1 : 0);
        }
    }

    private static void windowIsAllThatGoes() {
        Check.sentence("3: CREDITS: with none no more of the QUEUE leaves");
        for (int window = 1; window <= 15; window++) {
            SlotChip x = Check.chip("2x2:4");
            x.open(0, 0, 1, 4, window);
            x.feed(0, 99);
            Check.due("run(40)", x.run(40), window);
            Check.due("run(40) again", x.run(40), 0);
            Check.row("QUEUE, CREDITS, COME", what -> x.circuit(0, 8 + what), 99 - window, 0, window);
        }
    }
}
