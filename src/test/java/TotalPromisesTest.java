import java.util.ArrayList;
import java.util.List;

/** Promises 25, 27 and 28: run, count, digest. */
public final class TotalPromisesTest {
    public static void main(String[] args) {
        promise25Run();
        promise25StartsAndCycles();
        promise25RunRefused();
        promise27Count();
        promise28DigestOfNothing();
        promise28Digest();
        Check.end("TotalPromisesTest");
    }

    private static void promise25Run() {
        SlotChip x = Check.chip("2x2:4");
        x.open(0, 0, 1, 1, 9);
        x.open(0, 1, 0, 1, 9);
        x.pair(0, 1);
        x.feed(0, 2);
        x.stray(3, 3, false);
        x.stray(2, 2, true);
        Check.due("run(2): two strays", x.run(2), 2);
        Check.due("run(1): one by a circuit", x.run(1), 1);
        Check.due("run(4): one more", x.run(4), 1);
        x.take(0, 2);
        Check.due("run(40): credits do not count", x.run(40), 0);
        Check.due("but they came", x.circuit(0, 9), 9);
        Check.due("TIME", x.about(6), 47);
        Check.due("run(40) without anything", x.run(40), 0);
        Check.due("TIME then", x.about(6), 87);
    }

    /** A letter leaves in a cycle whose rest by S is a start, and never otherwise. */
    private static void promise25StartsAndCycles() {
        SlotChip x = Check.chip("3x3:5");
        x.run(3);
        x.open(3, 0, 8, 2, 15);
        x.feed(0, 9);
        int[] left = {0, 0, 1, 2, 2, 2, 2, 3, 4, 4, 4, 4, 5, 6};
        int[] come = {0, 0, 0, 0, 0, 0, 0, 1, 2, 2, 2, 2, 3, 4};
        for (int i = 0; i < left.length; i++) {
            int before = x.circuit(0, 12);
            Check.due("what came in cycle " + (3 + i), x.run(1), come[i] - before);
            Check.due("QUEUE behind cycle " + (3 + i), x.circuit(0, 8), 9 - left[i]);
            Check.due("DONE behind cycle " + (3 + i), x.circuit(0, 12), come[i]);
            Check.due("under way behind cycle " + (3 + i), x.circuit(0, 13), left[i] - come[i]);
            Check.due("CREDITS behind cycle " + (3 + i), x.circuit(0, 9), 15 - left[i]);
        }
    }

    private static void promise25RunRefused() {
        SlotChip none = new SlotChip();
        Check.state(none, "run(1) without a chip", () -> none.run(1));
        Check.state(none, "run(40) without a chip", () -> none.run(40));
        Check.outside(none, "run(41) without a chip", () -> none.run(41));
        SlotChip x = Check.chip("2x2:4");
        x.open(0, 0, 1, 1, 9);
        x.feed(0, 9);
        for (int cycles : new int[] {-1, 0, 41, Integer.MAX_VALUE, Integer.MIN_VALUE}) {
            Check.outside(x, "run(" + cycles + ")", () -> x.run(cycles));
        }
    }

    private static void promise27Count() {
        SlotChip x = Check.chip("3x2:4");
        x.open(0, 0, 5, 2, 9);
        x.open(0, 5, 0, 1, 9);
        x.open(0, 1, 0, 1, 9);
        x.feed(0, 9);
        x.feed(1, 5);
        x.feed(2, 3);
        x.stray(3, 3, false);
        x.stray(4, 0, true);
        Check.write(x, "3x");
        Check.row("count at first", x::count, 3, 0, 2, 17, 0, 2, 1);
        x.run(2);
        Check.row("count", x::count, 3, 4, 1, 13, 0, 2, 1);
        x.run(1);
        Check.row("count", x::count, 3, 3, 1, 13, 1, 2, 1);
        x.run(17);
        x.run(12);
        Check.row("count", x::count, 3, 0, 0, 0, 17, 2, 1);
        x.close(0);
        Check.row("count", x::count, 2, 0, 0, 0, 8, 2, 1);
        x.blank();
        Check.read(x, "2x2:4");
        Check.row("count of a new chip", x::count, 0, 0, 0, 0, 0, 0, 2);
        for (int what : new int[] {-1, 7, Integer.MAX_VALUE, Integer.MIN_VALUE}) {
            Check.outside(x, "count(" + what + ")", () -> x.count(what));
        }
    }

    private static long digestOf(List<Integer> numbers) {
        long h = 1511;
        for (int number : numbers) {
            h = 31 * h + number;
        }
        return h;
    }

    private static void promise28DigestOfNothing() {
        SlotChip x = new SlotChip();
        List<Integer> numbers = new ArrayList<>(List.of(0, 0, 0, 0, 0, 0, -1, -2));
        List<Integer> counts = List.of(0, 0, 0, 0, 0);
        List<Integer> all = new ArrayList<>(numbers);
        all.addAll(counts);
        all.addAll(List.of(0, 0));
        Check.due("digest() of a new object", x.digest(), digestOf(all));
        Check.write(x, "a~");
        numbers.addAll(List.of(97, 126));
        numbers.addAll(counts);
        numbers.addAll(List.of(2, 0));
        Check.due("digest() of a page alone", x.digest(), digestOf(numbers));
    }

    private static List<Integer> numbersOf(SlotChip x, String page) {
        List<Integer> all = new ArrayList<>();
        for (int what = 0; what <= 7; what++) {
            all.add(x.about(what));
        }
        for (int link = 0; link < 54; link++) {
            boolean there = x.link(link, 0) != -101;
            for (int what = 0; what <= 3 && there; what++) {
                all.add(x.link(link, what));
            }
        }
        for (int circuit = 0; circuit < 8; circuit++) {
            if (x.circuit(circuit, 0) >= 0) {
                all.add(circuit);
                for (int what = 0; what <= 14; what++) {
                    all.add(x.circuit(circuit, what));
                }
                for (int place = 0; x.route(circuit, place) >= 0; place++) {
                    all.add(x.route(circuit, place));
                }
                for (int place = 0; x.start(circuit, place) >= 0; place++) {
                    all.add(x.start(circuit, place));
                }
            }
        }
        for (int stray = 0; stray < x.count(2); stray++) {
            for (int what = 0; what <= 4; what++) {
                all.add(x.straying(stray, what));
            }
        }
        for (int i = 0; i < 6; i++) {
            all.add(x.arrived(i < 3, i % 3));
        }
        all.add(x.fastest());
        all.add(x.faster());
        page.chars().forEach(all::add);
        for (int what = 0; what <= 6; what++) {
            all.add(x.count(what));
        }
        return all;
    }

    private static void promise28Digest() {
        SlotChip x = Check.chip("3x2:7-0e-5w");
        Check.due("digest() of a chip", x.digest(), digestOf(numbersOf(x, "")));
        for (int runs = 0; runs < 12; runs++) {
            SlotChip y = inTheMidst(runs);
            Check.due("digest() in the midst of all", y.digest(), digestOf(numbersOf(y, "3x3:")));
        }
        SlotChip y = inTheMidst(12);
        Check.due("digest() twice", y.digest(), y.digest());
    }

    private static SlotChip inTheMidst(int runs) {
        SlotChip x = Check.chip("3x2:7-0e-5w");
        x.open(1, 0, 5, 3, 9);
        x.open(3, 1, 5, 2, 9);
        x.open(0, 5, 0, 1, 4);
        x.close(1);
        x.pair(0, 2);
        x.feed(0, 30);
        x.feed(2, 7);
        x.storm(10, 4711);
        Check.write(x, "3x3:");
        for (int i = 0; i < runs; i++) {
            x.run(3);
            x.take(0, 1);
        }
        return x;
    }
}
