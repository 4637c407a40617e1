/** Promises 12, 15 and 17 to 20: circuit, pair, close, feed, take, fastest. */
public final class CircuitPromisesTest {
    private static final int[] WRONG_CIRCUITS = {-1, 3, 7, 8, Integer.MAX_VALUE, Integer.MIN_VALUE};
    private static final int[] WRONG_MANY = {-1, 0, 100, Integer.MAX_VALUE, Integer.MIN_VALUE};

    public static void main(String[] args) {
        promise12Circuit();
        promise12Refusals();
        promise15Pair();
        promise17Close();
        promise17CloseAndLetters();
        promise18Feed();
        promise19Take();
        promise19CreditsComeBack();
        promise20Fastest();
        Check.end("CircuitPromisesTest");
    }

    /** 0 to 3 by starts 0 and 2, a window of 4; and 3 to 0 by start 0, a window of 5. */
    private static SlotChip pairOfCircuits() {
        SlotChip x = Check.chip("2x2:4");
        Check.due("open there", x.open(1, 0, 3, 2, 4), 0);
        Check.due("open back", x.open(0, 3, 0, 1, 5), 1);
        Check.due("pair", x.pair(0, 1), 4);
        return x;
    }

    private static void circuit(String when, SlotChip x, int circuit, int... wants) {
        Check.row(when + ", circuit " + circuit, what -> x.circuit(circuit, what), wants);
    }

    private static void promise12Circuit() {
        SlotChip x = pairOfCircuits();
        circuit("at first", x, 0, 1, 0, 3, 2, 4, 2, 2, 1, 0, 4, 0, 0, 0, 0, 0);
        circuit("at first", x, 1, 0, 3, 0, 1, 5, 2, 4, 0, 0, 5, 0, 0, 0, 0, 0);
        x.feed(0, 10);
        Check.due("run(6)", x.run(6), 2);
        circuit("behind 6 cycles", x, 0, 1, 0, 3, 2, 4, 2, 2, 1, 7, 1, 2, 0, 2, 1, 0);
        x.take(0, 2);
        circuit("behind take", x, 0, 1, 0, 3, 2, 4, 2, 2, 1, 7, 1, 0, 2, 2, 1, 0);
        Check.due("run(2)", x.run(2), 1);
        circuit("ahead of the start of the back", x, 0, 1, 0, 3, 2, 4, 2, 2, 1, 6, 0, 1, 2, 3, 1, 0);
        Check.due("run(1)", x.run(1), 0);
        circuit("it is told back", x, 0, 1, 0, 3, 2, 4, 2, 2, 1, 6, 0, 1, 0, 3, 1, 0);
        circuit("by a letter", x, 1, 0, 3, 0, 1, 5, 2, 4, 0, 0, 5, 0, 0, 0, 1, 0);
        Check.due("run(2)", x.run(2), 1);
        Check.due("credits, a cycle too early", x.circuit(0, 9), 0);
        Check.due("run(1)", x.run(1), 0);
        circuit("credits came back", x, 0, 1, 0, 3, 2, 4, 2, 2, 1, 6, 2, 2, 0, 4, 0, 0);
        circuit("by a letter that had nothing else", x, 1, 0, 3, 0, 1, 5, 2, 4, 0, 0, 5, 0, 0, 0, 0, 0);
        x.run(1);
        circuit("and the next one leaves", x, 0, 1, 0, 3, 2, 4, 2, 2, 1, 5, 1, 2, 0, 4, 1, 0);
        x.run(9);
        Check.due("opened later", x.open(4, 1, 0, 3, 15), 2);
        circuit("later", x, 2, 4, 1, 0, 3, 15, 1, 2, -1, 0, 15, 0, 0, 0, 0, 22);
    }

    private static void promise12Refusals() {
        SlotChip x = pairOfCircuits();
        for (int circuit : new int[] {-1, 2, 8, Integer.MAX_VALUE, Integer.MIN_VALUE}) {
            Check.unknown(x, "circuit(" + circuit + ", 0)", () -> x.circuit(circuit, 0));
            Check.unknown(x, "circuit(" + circuit + ", 15)", () -> x.circuit(circuit, 15));
        }
        for (int what : new int[] {-1, 15, Integer.MAX_VALUE, Integer.MIN_VALUE}) {
            Check.outside(x, "circuit(0, " + what + ")", () -> x.circuit(0, what));
        }
    }

    private static void promise15Pair() {
        SlotChip x = Check.chip("3x3:10");
        x.open(0, 0, 5, 1, 1);
        x.open(0, 5, 0, 1, 1);
        x.open(0, 5, 0, 1, 1);
        x.open(0, 0, 5, 1, 1);
        x.open(0, 5, 1, 1, 1);
        x.open(0, 1, 0, 1, 1);
        for (int circuit : new int[] {-1, 6, 8, Integer.MAX_VALUE, Integer.MIN_VALUE}) {
            Check.unknown(x, "pair(0, " + circuit + ")", () -> x.pair(0, circuit));
            Check.unknown(x, "pair(" + circuit + ", 0)", () -> x.pair(circuit, 0));
        }
        Check.unknown(x, "pair of one with itself", () -> x.pair(0, 0));
        Check.state(x, "both go the same way", () -> x.pair(0, 3));
        Check.state(x, "only one end is the same", () -> x.pair(0, 4));
        Check.state(x, "only the other end is the same", () -> x.pair(0, 5));
        Check.due("pair(1, 0)", x.pair(1, 0), 6);
        Check.due("its back", x.circuit(0, 7), 1);
        Check.due("and the other way about", x.circuit(1, 7), 0);
        Check.state(x, "both have a back", () -> x.pair(0, 1));
        Check.state(x, "the first one has a back", () -> x.pair(0, 2));
        Check.state(x, "the second one has a back", () -> x.pair(2, 0));
        Check.unknown(x, "one with itself that has a back", () -> x.pair(1, 1));
        Check.due("another pair", x.pair(2, 3), 6);
        SlotChip y = Check.chip("2x2:4-0e");
        y.open(0, 0, 1, 1, 1);
        y.open(0, 1, 0, 1, 1);
        Check.due("HOPS of both, unlike ones", y.pair(0, 1), 4);
    }

    private static void promise17Close() {
        SlotChip x = pairOfCircuits();
        x.open(0, 0, 1, 1, 1);
        x.feed(2, 12);
        x.feed(0, 7);
        for (int circuit : WRONG_CIRCUITS) {
            Check.unknown(x, "close(" + circuit + ")", () -> x.close(circuit));
        }
        Check.due("close(2)", x.close(2), 12);
        Check.unknown(x, "close(2) again", () -> x.close(2));
        Check.due("count(0)", x.count(0), 2);
        Check.due("about(5)", x.about(5), 12);
        Check.due("close(0)", x.close(0), 7);
        Check.due("its back has none", x.circuit(1, 7), -1);
        Check.due("about(5) then", x.about(5), 4);
        Check.due("a new one has its number", x.open(0, 0, 3, 1, 2), 0);
        circuit("a new one has nothing of the old one", x, 0, 0, 0, 3, 1, 2, 2, 4, -1, 0, 2, 0, 0, 0, 0, 0);
        Check.due("it can be paired", x.pair(0, 1), 4);
        x.feed(1, 3);
        Check.due("close(1)", x.close(1), 3);
    }

    private static void promise17CloseAndLetters() {
        SlotChip x = pairOfCircuits();
        x.feed(0, 4);
        x.run(1);
        Check.due("a letter is under way", x.circuit(0, 13), 1);
        Check.state(x, "close with a letter under way", () -> x.close(0));
        Check.state(x, "close of its back", () -> x.close(1));
        x.open(0, 1, 0, 1, 1);
        Check.due("close of another one", x.close(2), 0);
        x.run(9);
        Check.due("all came", x.circuit(0, 12), 4);
        x.take(0, 1);
        x.run(3);
        Check.due("a letter of the back is under way", x.circuit(1, 13), 1);
        Check.state(x, "close(0)", () -> x.close(0));
        Check.state(x, "close(1)", () -> x.close(1));
        x.run(3);
        x.take(0, 3);
        Check.due("close(1), nothing is under way", x.close(1), 0);
        x.run(40);
        Check.due("what is OWED stays, there is no back", x.circuit(0, 11), 3);
        Check.due("credits", x.circuit(0, 9), 1);
        x.open(0, 3, 0, 1, 1);
        x.pair(1, 0);
        x.run(10);
        Check.due("a new back tells it", x.circuit(0, 9), 4);
        x.close(1);
        x.feed(0, 4);
        x.run(20);
        x.take(0, 1);
        circuit("ahead of close", x, 0, 1, 0, 3, 2, 4, 2, 2, -1, 0, 0, 3, 1, 8, 0, 0);
        Check.due("close", x.close(0), 0);
        x.open(0, 0, 3, 1, 2);
        circuit("nothing that came is left", x, 0, 0, 0, 3, 1, 2, 2, 4, -1, 0, 2, 0, 0, 0, 0, x.about(6));
    }

    private static void promise18Feed() {
        SlotChip x = pairOfCircuits();
        Check.due("feed(0, 1)", x.feed(0, 1), 1);
        Check.due("feed(0, 50)", x.feed(0, 50), 51);
        Check.full(x, "feed(0, 49), 100 in all", () -> x.feed(0, 49));
        Check.outside(x, "feed(0, 100)", () -> x.feed(0, 100));
        Check.due("feed(0, 48)", x.feed(0, 48), 99);
        Check.full(x, "feed(0, 1), 100 in all", () -> x.feed(0, 1));
        Check.due("feed(1, 99)", x.feed(1, 99), 99);
        for (int many : WRONG_MANY) {
            Check.outside(x, "feed(1, " + many + ")", () -> x.feed(1, many));
            Check.unknown(x, "feed(2, " + many + ")", () -> x.feed(2, many));
        }
        for (int circuit : WRONG_CIRCUITS) {
            Check.unknown(x, "feed(" + circuit + ", 1)", () -> x.feed(circuit, 1));
        }
    }

    private static void promise19Take() {
        SlotChip x = pairOfCircuits();
        x.feed(0, 9);
        x.run(20);
        Check.due("what came", x.circuit(0, 10), 4);
        Check.state(x, "take(0, 5)", () -> x.take(0, 5));
        Check.state(x, "take(0, 99)", () -> x.take(0, 99));
        for (int many : WRONG_MANY) {
            Check.outside(x, "take(0, " + many + ")", () -> x.take(0, many));
            Check.unknown(x, "take(2, " + many + ")", () -> x.take(2, many));
        }
        for (int circuit : WRONG_CIRCUITS) {
            Check.unknown(x, "take(" + circuit + ", 1)", () -> x.take(circuit, 1));
        }
        Check.due("take(0, 1)", x.take(0, 1), 3);
        Check.due("take(0, 3)", x.take(0, 3), 0);
        Check.due("OWED", x.circuit(0, 11), 4);
        Check.due("DONE stays", x.circuit(0, 12), 4);
        Check.state(x, "take(0, 1) of none", () -> x.take(0, 1));
    }

    /** Three at most are told by one letter, along with what the letter has itself. */
    private static void promise19CreditsComeBack() {
        SlotChip x = Check.chip("2x2:4");
        x.open(0, 0, 1, 4, 8);
        x.open(0, 1, 0, 1, 15);
        x.pair(0, 1);
        x.feed(0, 20);
        Check.due("a window of letters comes", x.run(16), 8);
        x.take(0, 8);
        x.feed(1, 2);
        Check.due("OWED", x.circuit(0, 11), 8);
        x.run(1);
        Check.due("3 are told", x.circuit(0, 11), 5);
        Check.due("by a letter that has one of the QUEUE, too", x.circuit(1, 8), 1);
        Check.due("and needs a credit for it", x.circuit(1, 9), 14);
        x.run(1);
        Check.due("no credits yet", x.circuit(0, 9), 0);
        Check.due("the letter comes", x.run(1), 1);
        Check.due("3 credits", x.circuit(0, 9), 3);
        x.run(2);
        Check.due("3 more are told", x.circuit(0, 11), 2);
        x.run(4);
        Check.due("and the last 2", x.circuit(0, 11), 0);
        Check.due("without any of the QUEUE", x.circuit(1, 8), 0);
        x.run(40);
        Check.due("8 more came", x.circuit(0, 12), 16);
        Check.due("no more credits", x.circuit(0, 9), 0);
        Check.due("COME of the back", x.circuit(1, 10), 2);
    }

    private static void promise20Fastest() {
        SlotChip x = Check.chip("2x2:4");
        Check.due("fastest() of none", x.fastest(), -1);
        x.open(0, 0, 1, 1, 9);
        Check.due("fastest() of one without cycles", x.fastest(), 0);
        x.run(1);
        x.open(0, 1, 0, 1, 9);
        x.open(0, 2, 3, 1, 9);
        Check.due("fastest() of those at rest", x.fastest(), 0);
        x.feed(0, 1);
        x.run(8);
        Check.due("fastest(), 1 in 9 cycles", x.fastest(), 0);
        x.feed(2, 1);
        x.run(7);
        Check.due("fastest(), 1 in 15 is more than 1 in 16", x.fastest(), 2);
        x.close(2);
        Check.due("fastest() then", x.fastest(), 0);
        SlotChip y = Check.chip("2x2:5");
        y.open(0, 0, 1, 1, 9);
        y.feed(0, 2);
        y.run(10);
        y.open(0, 1, 0, 1, 9);
        y.feed(1, 1);
        Check.due("2 in 10 is more than none", y.fastest(), 0);
        y.run(9);
        Check.due("2 in 19 is less than 1 in 9", y.fastest(), 1);
        y.run(1);
        Check.due("2 in 20 is 1 in 10: the least", y.fastest(), 0);
        y.close(0);
        Check.due("fastest() then", y.fastest(), 1);
        y.run(10);
        y.open(0, 2, 3, 1, 9);
        y.feed(0, 1);
        y.run(19);
        Check.due("1 in 39 is less than 1 in 19", y.fastest(), 0);
        y.feed(1, 1);
        y.run(19);
        Check.due("2 in 58 is more than 1 in 38", y.fastest(), 1);
    }
}
