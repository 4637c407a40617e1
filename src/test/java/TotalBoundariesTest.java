import java.math.BigInteger;
import java.util.ArrayList;
import java.util.List;
import java.util.function.Supplier;

/** The boundary cases of promises 25, 27, 28, and of 512 calls, sentence by sentence. */
public final class TotalBoundariesTest {
    public static void main(String[] args) {
        promise25Cycles();
        promise25Several();
        promise25HowMuchCame();
        promise25OneByOne();
        promise27What();
        promise27Circuits();
        promise27Letters();
        promise27Strays();
        promise27Queues();
        promise27Done();
        promise27Page();
        promise27Reads();
        promise28Wraps();
        promise28WithoutAChip();
        promise28EachNumber();
        callsRun();
        callsWait();
        callsRead();
        callsOfCircuits();
        callsStorm();
        callsUse();
        callsKeepTheTable();
        Check.end("TotalBoundariesTest");
    }

    private static void promise25Cycles() {
        Check.sentence("25: OUTSIDE: cycles (1 to 40)");
        for (int cycles = 1; cycles <= 40; cycles++) {
            SlotChip x = Check.chip("2x2:4");
            x.open(0, 0, 1, 4, 15);
            x.feed(0, 99);
            int want = Math.max(0, Math.min(15, cycles - 2));
            Check.due("run(" + cycles + ")", x.run(cycles), want);
            Check.due("TIME", x.about(6), cycles);
        }
        SlotChip x = Check.chip("2x2:4");
        x.open(0, 0, 1, 4, 15);
        x.feed(0, 99);
        x.storm(9, 9);
        for (int cycles : Check.around(1, 40)) {
            Check.outside(x, "run(" + cycles + ")", () -> x.run(cycles));
        }
    }

    private static void promise25Several() {
        Check.sentence("25: OUTSIDE, then STATE: no CHIP");
        SlotChip none = new SlotChip();
        Check.write(none, "2x2:4");
        for (int cycles = 1; cycles <= 40; cycles++) {
            int its = cycles;
            Check.state(none, "run(" + cycles + ") without a chip", () -> none.run(its));
        }
        for (int cycles : Check.around(1, 40)) {
            Check.outside(none, "run(" + cycles + ") without a chip", () -> none.run(cycles));
        }
    }

    private static void promise25HowMuchCame() {
        Check.sentence("25: how much came by CIRCUITS and how many STRAYS are ARRIVED in these, together");
        SlotChip x = Check.chip("2x2:4");
        Check.due("nothing", x.run(40), 0);
        x.open(0, 0, 1, 4, 15);
        x.open(0, 1, 0, 4, 15);
        x.pair(0, 1);
        x.feed(0, 15);
        x.feed(1, 2);
        for (int stray = 0; stray < 12; stray++) {
            x.stray(2 + stray % 2, 2 + stray % 2, false);
        }
        Check.due("15 and 2 by circuits, 12 strays", x.run(40), 29);
        x.take(0, 15);
        x.take(1, 2);
        Check.due("letters that have credits alone", x.run(40), 0);
        Check.due("they came", x.circuit(0, 9) + x.circuit(1, 9), 30);
    }

    private static void promise25OneByOne() {
        Check.sentence("25: So many CYCLES go by");
        SlotChip once = busy();
        SlotChip often = busy();
        int sum = 0;
        for (int cycle = 0; cycle < 40; cycle++) {
            sum += often.run(1);
        }
        Check.due("40 at once, or one by one", once.run(40), sum);
        Check.due("digest()", once.digest(), often.digest());
    }

    private static SlotChip busy() {
        SlotChip x = Check.chip("3x3:7-4e");
        x.open(1, 0, 8, 3, 9);
        x.open(4, 8, 0, 2, 5);
        x.open(3, 2, 6, 2, 15);
        x.pair(0, 1);
        x.feed(0, 40);
        x.feed(1, 9);
        x.feed(2, 99);
        x.storm(12, 77);
        return x;
    }

    private static void promise27What() {
        Check.sentence("27: OUTSIDE: what (0 to 6)");
        SlotChip x = Check.chip("2x2:4");
        SlotChip none = new SlotChip();
        for (int what : Check.around(0, 6)) {
            Check.outside(x, "count(" + what + ")", () -> x.count(what));
            Check.outside(none, "count(" + what + ") without a chip", () -> none.count(what));
        }
        Check.due("the first one", x.count(0), 0);
        Check.due("the last one", x.count(6), 1);
    }

    private static void promise27Circuits() {
        Check.sentence("27: 0 CIRCUITS");
        SlotChip x = Check.chip("3x3:10");
        for (int many = 0; many < 8; many++) {
            Check.due("count(0)", x.count(0), many);
            x.open(0, many, many + 1, 1, 1);
        }
        Check.due("eight", x.count(0), 8);
        x.open(0, 0, 1, 1, 1);
        Check.due("no ninth one", x.count(0), 8);
        x.close(3);
        Check.due("seven", x.count(0), 7);
        Check.read(x, "3x3:10");
        Check.due("none of a new chip", x.count(0), 0);
    }

    private static void promise27Letters() {
        Check.sentence("27: 1 LETTERS under way");
        SlotChip x = Check.chip("3x3:4-0e-1w-3e-4w-7n-4s-5w-4e");
        x.open(0, 0, 2, 4, 15);
        x.open(0, 2, 0, 4, 15);
        x.pair(0, 1);
        Check.due("none", x.count(1), 0);
        x.feed(0, 15);
        x.feed(1, 15);
        x.run(1);
        Check.due("one of each", x.count(1), 2);
        x.run(9);
        Check.due("seven of each", x.count(1), 14);
        x.run(40);
        Check.due("none again", x.count(1), 0);
        x.take(0, 1);
        x.run(1);
        Check.due("one with credits alone", x.count(1), 1);
        x.run(2);
        Check.read(x, "3x3:10");
        Check.due("none of a new chip", x.count(1), 0);
    }

    private static void promise27Strays() {
        Check.sentence("27: 2 STRAYS under way");
        SlotChip x = Check.chip("2x2:4");
        for (int many = 0; many < 12; many++) {
            Check.due("count(2)", x.count(2), many);
            x.stray(0, 0, true);
        }
        x.stray(0, 0, true);
        Check.due("twelve", x.count(2), 12);
        x.run(1);
        Check.due("twelve, one is in a router", x.count(2), 12);
        for (int left = 11; left >= 0; left--) {
            x.run(1);
            Check.due("count(2)", x.count(2), left);
        }
    }

    private static void promise27Queues() {
        Check.sentence("27: 3 QUEUES together");
        SlotChip x = Check.chip("3x3:4");
        Check.due("none", x.count(3), 0);
        for (int circuit = 0; circuit < 8; circuit++) {
            x.open(0, circuit, circuit + 1, 1, 1);
            x.feed(circuit, 99);
            Check.due("count(3)", x.count(3), 99 * circuit + 99);
        }
        x.run(1);
        Check.due("one left each of them", x.count(3), 784);
        x.run(3);
        x.close(7);
        Check.due("98 are gone with one", x.count(3), 686);
    }

    private static void promise27Done() {
        Check.sentence("27: 4 DONE of all CIRCUITS that there are");
        SlotChip x = Check.chip("2x2:4");
        x.open(0, 0, 1, 1, 3);
        x.open(0, 1, 0, 1, 5);
        x.feed(0, 9);
        x.feed(1, 9);
        Check.due("none", x.count(4), 0);
        x.run(2);
        Check.due("none yet", x.count(4), 0);
        x.run(1);
        Check.due("two", x.count(4), 2);
        x.run(40);
        Check.due("3 and 5", x.count(4), 8);
        x.take(0, 3);
        Check.due("what is taken counts", x.count(4), 8);
        x.close(1);
        Check.due("what a closed one had does not", x.count(4), 3);
        x.close(0);
        Check.due("none", x.count(4), 0);
    }

    private static void promise27Page() {
        Check.sentence("27: 5 letters of THE PAGE");
        SlotChip x = new SlotChip();
        for (int many = 0; many <= 30; many++) {
            Check.due("count(5)", x.count(5), many);
            x.letter(32 + many);
        }
        Check.due("no more than 30", x.count(5), 30);
        x.blank();
        Check.due("none", x.count(5), 0);
    }

    private static void promise27Reads() {
        Check.sentence("27: 6 how often a CHIP was read");
        SlotChip x = new SlotChip();
        for (int many = 0; many < 40; many++) {
            Check.due("count(6)", x.count(6), many);
            x.chip();
            Check.due("a refused one does not count", x.count(6), many);
            Check.read(x, "3x2:10");
        }
    }

    private static long digestOf(List<Integer> numbers) {
        BigInteger h = BigInteger.valueOf(1511);
        for (int number : numbers) {
            h = h.multiply(BigInteger.valueOf(31)).add(BigInteger.valueOf(number));
        }
        return h.longValue();
    }

    private static void promise28Wraps() {
        Check.sentence("28: 31 times h, and it (as longs, wrapping)");
        boolean below = false;
        boolean above = false;
        for (int cycles = 1; cycles <= 16; cycles++) {
            int its = cycles;
            long digest = digest("behind " + cycles + " cycles", "", () -> {
                SlotChip x = busy();
                x.run(its);
                return x;
            });
            below |= digest < 0;
            above |= digest > Integer.MAX_VALUE;
        }
        Check.due("some are below 0", below ? 1 : 0, 1);
        Check.due("some are above all ints", above ? 1 : 0, 1);
    }

    private static void promise28WithoutAChip() {
        Check.sentence("28: with a CHIP about().., link()..; letters of THE PAGE");
        for (int many = 0; many <= 30; many++) {
            SlotChip x = new SlotChip();
            List<Integer> numbers = new ArrayList<>(List.of(0, 0, 0, 0, 0, 0, -1, -2));
            for (int place = 0; place < many; place++) {
                x.letter(126 - place);
                numbers.add(126 - place);
            }
            numbers.addAll(List.of(0, 0, 0, 0, 0, many, 0));
            Check.due("digest() of a page with " + many, x.digest(), digestOf(numbers));
        }
    }

    /** What digest() tells of, asked of objects that are made alike: no one of them is asked too often. */
    private static List<Integer> numbersOf(Supplier<SlotChip> made, String page) {
        List<Integer> all = new ArrayList<>();
        addChip(all, made.get());
        for (int circuit = 0; circuit < 8; circuit++) {
            addCircuit(all, made.get(), circuit);
        }
        SlotChip x = made.get();
        for (int stray = 0; stray < x.count(2); stray++) {
            for (int what = 0; what <= 4; what++) {
                all.add(x.straying(stray, what));
            }
        }
        for (int what = 0; what <= 2; what++) {
            all.add(x.arrived(true, what));
        }
        for (int what = 0; what <= 2; what++) {
            all.add(x.arrived(false, what));
        }
        all.add(x.fastest());
        all.add(x.faster());
        page.chars().forEach(all::add);
        for (int what = 0; what <= 6; what++) {
            all.add(x.count(what));
        }
        return all;
    }

    private static void addChip(List<Integer> all, SlotChip x) {
        for (int what = 0; what <= 7; what++) {
            all.add(x.about(what));
        }
        for (int link = 0; link < 54; link++) {
            boolean there = x.link(link, 0) != -101;
            for (int what = 0; what <= 3 && there; what++) {
                all.add(x.link(link, what));
            }
        }
    }

    private static void addCircuit(List<Integer> all, SlotChip x, int circuit) {
        if (x.circuit(circuit, 0) == -101) {
            return;
        }
        all.add(circuit);
        for (int what = 0; what <= 14; what++) {
            all.add(x.circuit(circuit, what));
        }
        for (int place = 0; place < x.circuit(circuit, 5) + 2; place++) {
            all.add(x.route(circuit, place));
        }
        for (int place = 0; place < x.circuit(circuit, 3); place++) {
            all.add(x.start(circuit, place));
        }
    }

    private static long digest(String what, String page, Supplier<SlotChip> made) {
        long digest = made.get().digest();
        Check.due("digest() " + what, digest, digestOf(numbersOf(made, page)));
        return digest;
    }

    private static void promise28EachNumber() {
        Check.sentence("28: none of a kind, and as many as there can be");
        for (int[] size : Sizes.ALL) {
            for (int steps = 0; steps <= 4; steps++) {
                int its = steps;
                digest("behind step " + steps, steps == 4 ? "~".repeat(30) : "", () -> filled(size, its));
            }
        }
        digest("of a route of eight, and of what was refused", "", () -> {
            SlotChip six = Check.chip("3x3:10-0e-3e-7n-5w");
            six.open(1, 0, 2, 4, 15);
            six.open(0, 3, 4, 1, 15);
            return six;
        });
    }

    /** A chip; with eight circuits; with full queues and twelve strays; in the midst; with a full page. */
    private static SlotChip filled(int[] size, int steps) {
        SlotChip x = Check.chip(Sizes.text(size, 10));
        for (int circuit = 0; circuit < 8 && steps > 0; circuit++) {
            x.open(circuit % 5, circuit % 4, (circuit + 1) % 4, 1 + circuit % 2, 15);
        }
        for (int circuit = 0; circuit < 8 && steps > 1; circuit++) {
            x.feed(circuit, 99);
        }
        if (steps > 1) {
            x.storm(12, 12);
        }
        if (steps > 2) {
            x.run(7);
        }
        Check.write(x, steps > 3 ? "~".repeat(30) : "");
        return x;
    }

    // ---- An object is used for at most 512 calls; the last of them counts as the first does.

    /** A chip by seven calls: blank(), five letters, chip(). */
    private static SlotChip bySevenCalls() {
        return Check.chip("2x2:4");
    }

    private static void callsRun() {
        Check.sentence("What it is: at most 512 calls: TIME");
        SlotChip x = bySevenCalls();
        for (int call = 8; call <= 511; call++) {
            x.run(40);
        }
        Check.due("the 512th call", x.about(6), 504 * 40);
        SlotChip y = bySevenCalls();
        y.open(0, 3, 2, 4, 15);
        y.feed(0, 99);
        for (int call = 10; call <= 510; call++) {
            y.run(40);
        }
        Check.due("the 511th call", y.fastest(), 0);
        Check.due("the 512th call", y.about(6), 501 * 40);
    }

    private static void callsWait() {
        Check.sentence("What it is: at most 512 calls: DELAY");
        SlotChip x = bySevenCalls();
        x.cut(3, true);
        x.stray(0, 1, true);
        for (int call = 10; call <= 509; call++) {
            x.run(40);
        }
        Check.due("the 510th call", x.cut(3, false), 0);
        Check.due("the 511th call", x.run(2), 1);
        Check.due("the 512th call", x.arrived(true, 2), 500 * 40 + 2);
    }

    private static void callsRead() {
        Check.sentence("What it is: at most 512 calls: CHIPS and letters");
        SlotChip x = new SlotChip();
        for (int chip = 0; chip < 85; chip++) {
            Check.write(x, "2x2:4");
            Check.due("chip()", x.chip(), 4);
        }
        Check.due("the 511th call", x.letter('2'), 1);
        Check.due("the 512th call", x.count(6), 85);
        SlotChip y = new SlotChip();
        for (int call = 1; call <= 511; call++) {
            Check.due("letter", y.letter('a'), call <= 30 ? call : -104);
        }
        Check.due("the 512th call", y.count(5), 30);
    }

    private static void callsOfCircuits() {
        Check.sentence("What it is: at most 512 calls: DONE, and circuits opened and closed");
        SlotChip x = bySevenCalls();
        x.open(0, 0, 1, 4, 15);
        x.open(0, 1, 0, 4, 1);
        x.pair(0, 1);
        int done = 0;
        for (int call = 11; call <= 505; call += 3) {
            x.feed(0, 15);
            done += x.run(40);
            x.take(0, 15);
        }
        Check.due("15 each time", done, 165 * 15);
        Check.due("the 506th call", x.run(40), 0);
        Check.row("the calls behind it", what -> x.circuit(0, 8 + what), 0, 15, 0, 0, 165 * 15);
        Check.due("the 512th call", x.count(4), 165 * 15);
        SlotChip y = bySevenCalls();
        for (int call = 8; call <= 509; call += 2) {
            Check.due("open", y.open(call % 5, 0, 3, 4, 15), 0);
            Check.due("close", y.close(0), 0);
        }
        Check.due("the 510th call", y.about(5), 0);
        Check.due("the 511th call", y.open(0, 0, 3, 4, 15), 0);
        Check.due("the 512th call", y.about(5), 16);
    }

    private static void callsStorm() {
        Check.sentence("What it is: at most 512 calls: ARRIVED");
        SlotChip x = bySevenCalls();
        int came = 0;
        for (int call = 8; call <= 509; call += 2) {
            Check.due("storm", x.storm(12, call), 12);
            came += x.run(40);
        }
        Check.due("all arrived", came, 251 * 12);
        Check.due("the 510th and the 511th call", x.arrived(true, 0) + x.arrived(false, 0), came);
        Check.due("the 512th call", x.count(2), 0);
    }

    private static void callsUse() {
        Check.sentence("What it is: at most 512 calls: how often a LINK was used");
        SlotChip x = bySevenCalls();
        x.open(0, 2, 3, 4, 15);
        x.open(0, 3, 2, 4, 1);
        x.pair(0, 1);
        for (int call = 11; call <= 505; call += 3) {
            x.feed(0, 15);
            x.run(40);
            x.take(0, 15);
        }
        Check.due("the 506th call: IN of 2", x.link(12, 3), 165 * 15);
        Check.due("EAST of 2", x.link(15, 3), 165 * 15);
        Check.due("WEST of 3: five letters tell of 15, but those of the last", x.link(23, 3), 164 * 5);
        Check.due("the one that was used most", x.about(7), 12);
    }

    private static void callsKeepTheTable() {
        Check.sentence("What it is: at most 512 calls: the rest of TIME by S");
        for (int slots = 4; slots <= 10; slots++) {
            SlotChip x = Check.chip("2x2:" + slots);
            x.open(4, 0, 1, 2, 15);
            for (int many = 0; many < 440; many++) {
                x.run(40);
            }
            x.feed(0, 15);
            int left = 0;
            for (int time = 440 * 40; time < 440 * 40 + 11; time++) {
                left += time % slots < 2 ? 1 : 0;
                x.run(1);
                Check.due("QUEUE behind cycle " + time + ", S " + slots, x.circuit(0, 8), 15 - left);
            }
            int time = 440 * 40 + 11;
            x.stray(0, 0, true);
            x.run(1);
            Check.due("a stray at " + time + ", S " + slots, x.straying(0, 2), time % slots < 2 ? -1 : 0);
        }
    }
}
