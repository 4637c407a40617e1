import java.util.Map;
import java.util.function.Consumer;
import java.util.function.Supplier;

/**
 * What a call that is not refused changes, and that it changes nothing else: all that can be asked is asked ahead of
 * it and behind it. A row of what changes is told by its first name and the answers from there on.
 */
public final class ChangesTest {
    public static void main(String[] args) {
        questions();
        letters();
        reading();
        cutting();
        opening();
        pairing();
        moving();
        closing();
        feedingAndTaking();
        straying();
        cycles();
        Check.end("ChangesTest");
    }

    /** At TIME 24, with no letter under way: four circuits, two strays that wait for a broken link, a page. */
    private static SlotChip quiet() {
        SlotChip x = Check.chip("3x3:8-4e-1s");
        x.open(0, 0, 8, 2, 4);
        x.open(1, 8, 0, 2, 6);
        x.open(2, 3, 5, 2, 3);
        x.open(4, 2, 0, 1, 2);
        x.feed(0, 9);
        x.feed(1, 5);
        x.feed(2, 4);
        x.feed(3, 3);
        x.stray(1, 4, true);
        x.stray(3, 6, false);
        x.run(20);
        x.take(0, 2);
        x.take(1, 1);
        x.stray(4, 5, true);
        x.stray(0, 6, false);
        x.stray(2, 8, false);
        Check.write(x, "2x2:4-0n");
        x.run(2);
        x.feed(1, 2);
        x.run(2);
        return x;
    }

    /** A cycle later, with a letter of circuit 1 under way. */
    private static SlotChip busy() {
        SlotChip x = quiet();
        x.run(1);
        return x;
    }

    private static Supplier<SlotChip> behind(Supplier<SlotChip> maker, Consumer<SlotChip> call) {
        return () -> {
            SlotChip x = maker.get();
            call.accept(x);
            return x;
        };
    }

    private static void changes(String what, Supplier<SlotChip> maker, Consumer<SlotChip> call, String... rows) {
        Map<String, Long> wanted = Snapshot.of(maker);
        for (String row : rows) {
            put(wanted, row);
        }
        same(what, Snapshot.of(behind(maker, call)), wanted);
    }

    private static void same(String what, Map<String, Long> got, Map<String, Long> wanted) {
        for (String name : wanted.keySet()) {
            Check.due(what + ": " + name, got.get(name), wanted.get(name));
        }
    }

    private static void put(Map<String, Long> wanted, String row) {
        String[] parts = row.split(": ");
        int last = parts[0].lastIndexOf(' ');
        int place = Integer.parseInt(parts[0].substring(last + 1));
        for (String answer : parts[1].split(" ")) {
            String name = parts[0].substring(0, last + 1) + place;
            Check.due("there is such a name: " + name, wanted.containsKey(name) ? 1 : 0, 1);
            wanted.put(name, Long.parseLong(answer));
            place++;
        }
    }

    private static void questions() {
        Check.sentence("6 to 8, 11 to 14, 20, 22 to 24, 27, 28: what is asked is told, it changes nothing");
        Check.due("a new object", Snapshot.changesNothing(SlotChip::new) ? 1 : 0, 1);
        Check.due("no letter under way", Snapshot.changesNothing(ChangesTest::quiet) ? 1 : 0, 1);
        Check.due("a letter under way", Snapshot.changesNothing(ChangesTest::busy) ? 1 : 0, 1);
        changes("fault", ChangesTest::busy, SlotChip::fault);
        changes("digest", ChangesTest::busy, SlotChip::digest);
    }

    private static void letters() {
        Check.sentence("2: A letter comes behind THE PAGE; 3: THE PAGE is empty");
        changes("letter", ChangesTest::busy, x -> x.letter('z'), "count 5: 9");
        changes("letter of a new object", SlotChip::new, x -> x.letter('z'), "count 5: 1");
        Map<String, Long> wanted = Snapshot.of(ChangesTest::busy);
        wanted.put("fault", 0L);
        wanted.put("count 5", 0L);
        same("blank", Snapshot.of(behind(ChangesTest::busy, SlotChip::blank)), wanted);
    }

    private static void reading() {
        Check.sentence("5: THE PAGE is read as THE CHIP (another one is gone, with all that was; TIME is 0)");
        for (String text : new String[] {"2x3:5-0s", "3x3:8-4e-1s", "3x3:10", "2x2:4"}) {
            Map<String, Long> wanted = Snapshot.of(() -> Check.chip(text));
            wanted.put("count 6", 2L);
            Consumer<SlotChip> reading = x -> Check.read(x, text);
            same("no letter under way, " + text, Snapshot.of(behind(ChangesTest::quiet, reading)), wanted);
            same("a letter under way, " + text, Snapshot.of(behind(ChangesTest::busy, reading)), wanted);
        }
    }

    private static void cutting() {
        Check.sentence("9: A LINK is BROKEN, or, if broken is false, no more");
        changes("one for which a stray waits is mended", ChangesTest::busy, x -> x.cut(27, false), "link 27 1: 0",
            "about 4: 1");
        changes("one that was used is cut", ChangesTest::busy, x -> x.cut(22, true), "link 22 1: 1", "about 4: 3");
        Supplier<SlotChip> cut = behind(ChangesTest::busy, x -> x.cut(22, true));
        changes("and mended", cut, x -> x.cut(22, false), "link 22 1: 0", "about 4: 2");
    }

    private static void opening() {
        Check.sentence("10: A CIRCUIT is OPENED: its number, the least that no other one has");
        changes("open", ChangesTest::busy, x -> x.open(3, 6, 7, 3, 5),
            "circuit 4 0: 3 6 7 3 5 1 6 -1 0 5 0 0 0 0 25", "route 4 0: 36 39 43", "start 4 0: 0 1 2",
            "as 4 0: 4 -1 -1 4 -1", "slot 36 0: 4 4 4", "slot 39 1: 4 4 4", "slot 43 2: 4 4 4", "link 36 2: 3",
            "link 39 2: 3", "link 43 2: 3", "about 5: 49", "count 0: 5");
    }

    private static void pairing() {
        Check.sentence("15: Two CIRCUITS are paired: each is the other one's BACK");
        for (int one = 0; one <= 1; one++) {
            int other = 1 - one;
            changes("no letter under way", ChangesTest::quiet, x -> x.pair(1 - other, other), "circuit 0 7: 1",
                "circuit 1 7: 0");
            changes("a letter under way", ChangesTest::busy, x -> x.pair(1 - other, other), "circuit 0 7: 1",
                "circuit 1 7: 0");
        }
    }

    private static void moving() {
        Check.sentence("16: A CIRCUIT gets its WAY and STARTS anew, as if it were not there");
        changes("to where it was", ChangesTest::busy, x -> x.move(0));
        changes("a wide one, to where it was", ChangesTest::quiet, x -> x.move(2));
        Supplier<SlotChip> mended = behind(ChangesTest::quiet, x -> x.cut(27, false));
        changes("to a way of two hops", mended, x -> x.move(2), "circuit 2 5: 2", "route 2 0: 18 21 27 31 -101 -101",
            "start 2 0: 0 4", "slot 18 0: 2 -1 -1 -1 2 -1", "slot 20 2: -1", "slot 20 6: -1", "slot 3 3: -1",
            "slot 3 7: -1", "slot 9 0: -1", "slot 9 4: -1", "slot 16 1: -1", "slot 16 5: -1", "slot 21 1: 2",
            "slot 21 5: 2", "slot 27 2: 2", "slot 27 6: 2", "slot 31 2: -1 2", "slot 31 6: -1 2", "link 20 2: 0",
            "link 3 2: 2", "link 9 2: 2", "link 16 2: 2", "link 21 2: 2", "link 27 2: 2", "about 5: 36");
    }

    private static void closing() {
        Check.sentence("17: A CIRCUIT is closed, its BACK has none then");
        Supplier<SlotChip> paired = behind(ChangesTest::quiet, x -> x.pair(0, 1));
        String none = " -101".repeat(15).substring(1);
        changes("one that has a back", paired, x -> x.close(0), "circuit 0 0: " + none, "circuit 1 7: -1",
            "route 0 0: -101 -101 -101 -101 -101 -101", "start 0 0: -101 -101", "as 0 0: -101 -101 -101 -101 -101",
            "slot 0 0: -1 -1", "slot 3 1: -1 -1", "slot 9 2: -1 -1", "slot 16 3: -1 -1", "slot 34 4: -1 -1",
            "slot 49 5: -1 -1", "link 0 2: 0", "link 3 2: 2", "link 9 2: 2", "link 16 2: 2", "link 34 2: 0",
            "link 49 2: 0", "about 5: 28", "count 0: 3", "count 3: 4 10");
    }

    private static void feedingAndTaking() {
        Check.sentence("18: So much comes to the QUEUE; 19: So much of COME is TAKEN");
        changes("feed", ChangesTest::busy, x -> x.feed(2, 7), "circuit 2 8: 8", "count 3: 15");
        changes("take", ChangesTest::busy, x -> x.take(1, 2), "circuit 1 10: 2 3");
    }

    private static void straying() {
        Check.sentence("21: A STRAY comes, outside of a ROUTER; 26: So many STRAYS come by a SEED");
        changes("stray", ChangesTest::busy, x -> x.stray(8, 0, true), "count 2: 3", "straying 2 0: 0 1 -1 0 48");
        changes("storm", ChangesTest::busy, x -> x.storm(1, 3), "count 2: 3", "straying 2 0: 6 1 -1 0 48");
    }

    private static void cycles() {
        Check.sentence("25: So many CYCLES go by");
        changes("a letter leaves, a stray comes and strays wait", behind(ChangesTest::quiet, x -> x.stray(4, 4, false)),
            x -> x.run(1), "circuit 1 8: 1 0", "circuit 1 13: 1", "count 1: 1", "count 3: 8", "about 6: 25",
            "straying 0 3: 25", "straying 1 3: 5", "straying 2 2: 4 1 25", "link 24 3: 2", "link 48 3: 6");
    }
}
