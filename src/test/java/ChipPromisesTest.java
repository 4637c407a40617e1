/** Promises 6 to 9: about, link, slot, cut. */
public final class ChipPromisesTest {
    public static void main(String[] args) {
        promise6About();
        promise6MostOften();
        promise7Link();
        promise7HowOften();
        promise8Slot();
        promise9Cut();
        promise9CutAndStrays();
        Check.end("ChipPromisesTest");
    }

    private static void promise6About() {
        Check.row("about of 2x2:4", Check.chip("2x2:4")::about, 2, 2, 4, 16, 0, 0, 0, 0);
        Check.row("about of 2x3:10", Check.chip("2x3:10")::about, 2, 3, 10, 26, 0, 0, 0, 0);
        Check.row("about of 3x2:9", Check.chip("3x2:9-1w-5n")::about, 3, 2, 9, 26, 2, 0, 0, 0);
        SlotChip x = Check.chip("3x3:8-0e");
        Check.row("about of 3x3:8", x::about, 3, 3, 8, 42, 1, 0, 0, 0);
        x.open(0, 0, 8, 3, 1);
        Check.due("about(5), 3 starts on 6 links", x.about(5), 18);
        x.open(0, 8, 7, 2, 1);
        Check.due("about(5), and 2 starts on 3 links", x.about(5), 24);
        x.close(0);
        Check.due("about(5) then", x.about(5), 6);
        x.run(7);
        x.run(40);
        Check.due("about(6)", x.about(6), 47);
        for (int what : new int[] {-1, 8, Integer.MAX_VALUE, Integer.MIN_VALUE}) {
            Check.outside(x, "about(" + what + ")", () -> x.about(what));
        }
        SlotChip none = new SlotChip();
        Check.outside(none, "about(8) without a chip", () -> none.about(8));
        Check.state(none, "about(7) without a chip", () -> none.about(7));
    }

    private static void promise6MostOften() {
        SlotChip x = Check.chip("2x2:4");
        x.stray(3, 3, false);
        x.run(1);
        Check.due("about(7), IN of 3 once", x.about(7), 18);
        x.run(1);
        Check.due("about(7), OUT of 3 once, too", x.about(7), 18);
        x.stray(1, 3, false);
        x.run(3);
        Check.due("about(7), OUT of 3 twice", x.about(7), 19);
        x.open(0, 1, 3, 1, 9);
        x.feed(0, 1);
        x.run(6);
        Check.due("link(6, 3)", x.link(6, 3), 2);
        Check.due("link(10, 3)", x.link(10, 3), 2);
        Check.due("about(7), OUT of 3 three times", x.about(7), 19);
        SlotChip y = Check.chip("2x2:4");
        y.stray(1, 0, false);
        y.stray(2, 0, true);
        y.run(9);
        Check.due("about(7), OUT of 0 twice", y.about(7), 1);
    }

    private static void promise7Link() {
        SlotChip x = Check.chip("3x2:5-4n");
        Check.row("link to which router", link -> x.link(link, 0), 0, -1, -101, 1, 3, -101, 1, -1, -101, 2, 4, 0, 2, -1,
            -101, -101, 5, 1, 3, -1, 0, 4, -101, -101, 4, -1, 1, 5, -101, 3, 5, -1, 2, -101, -101, 4, -101, -101);
        Check.due("link(26, 1)", x.link(26, 1), 1);
        Check.due("link(10, 1), the other way", x.link(10, 1), 0);
        Check.due("link(0, 1)", x.link(0, 1), 0);
        x.open(0, 0, 1, 2, 1);
        x.open(0, 0, 1, 1, 1);
        Check.due("link(3, 2)", x.link(3, 2), 3);
        Check.due("link(9, 2)", x.link(9, 2), 0);
        for (int link : new int[] {-1, 2, 36, 53, 54, Integer.MAX_VALUE, Integer.MIN_VALUE}) {
            Check.unknown(x, "link(" + link + ", 0)", () -> x.link(link, 0));
            Check.unknown(x, "link(" + link + ", 9)", () -> x.link(link, 9));
        }
        for (int what : new int[] {-1, 4, Integer.MAX_VALUE, Integer.MIN_VALUE}) {
            Check.outside(x, "link(0, " + what + ")", () -> x.link(0, what));
        }
        SlotChip none = new SlotChip();
        Check.unknown(none, "link(0, 9) without a chip", () -> none.link(0, 9));
        SlotChip nine = Check.chip("3x3:5");
        Check.row("link of the middle one", port -> nine.link(24 + port, 0), 4, -1, 1, 5, 7, 3);
        Check.row("link of the last one", port -> nine.link(48 + port, 0), 8, -1, 5, -101, -101, 7, -101);
    }

    private static void promise7HowOften() {
        SlotChip x = Check.chip("2x2:4");
        x.open(0, 0, 1, 1, 2);
        x.feed(0, 5);
        x.run(1);
        Check.due("link(0, 3) behind the first cycle", x.link(0, 3), 1);
        Check.due("link(3, 3) behind the first cycle", x.link(3, 3), 0);
        x.run(1);
        Check.due("link(3, 3) behind the second cycle", x.link(3, 3), 1);
        Check.due("link(7, 3) behind the second cycle", x.link(7, 3), 0);
        x.run(30);
        Check.row("link 3 of the route, by a window of 2", place -> x.link(x.route(0, place), 3), 2, 2, 2);
        x.stray(0, 1, false);
        x.run(5);
        Check.row("link 3 with a stray", place -> x.link(x.route(0, place), 3), 3, 3, 3);
        x.close(0);
        Check.due("link(3, 3) behind close", x.link(3, 3), 3);
    }

    private static void promise8Slot() {
        SlotChip x = Check.chip("3x3:4");
        x.open(0, 8, 0, 1, 1);
        int[] links = {48, 50, 32, 17, 11, 1};
        Check.row("route", place -> x.route(0, place), links);
        for (int k = 0; k < links.length; k++) {
            for (int slot = 0; slot < 4; slot++) {
                Check.due("slot(" + links[k] + ", " + slot + ")", x.slot(links[k], slot), slot == k % 4 ? 0 : -1);
            }
        }
        Check.due("a second circuit", x.open(0, 5, 2, 2, 1), 1);
        Check.row("slots of the link of both", slot -> x.slot(32, slot), -1, 1, 0, 1, -101);
        Check.row("slots of a link without any", slot -> x.slot(0, slot), -1, -1, -1, -1, -101);
        for (int link : new int[] {-1, 2, 54, 44 + 6 * 9, Integer.MAX_VALUE, Integer.MIN_VALUE}) {
            Check.unknown(x, "slot(" + link + ", 0)", () -> x.slot(link, 0));
        }
        for (int slot : new int[] {-1, 4, 10, Integer.MAX_VALUE, Integer.MIN_VALUE}) {
            Check.unknown(x, "slot(48, " + slot + ")", () -> x.slot(48, slot));
        }
    }

    private static void promise9Cut() {
        SlotChip x = Check.chip("3x2:4-0e");
        Check.due("cut(9, true)", x.cut(9, true), 2);
        Check.due("link(9, 1)", x.link(9, 1), 1);
        Check.state(x, "cut(9, true) again", () -> x.cut(9, true));
        Check.state(x, "cut(10, false), not broken", () -> x.cut(10, false));
        Check.due("cut(3, false)", x.cut(3, false), 1);
        Check.due("link(3, 1)", x.link(3, 1), 0);
        Check.state(x, "cut(3, false) again", () -> x.cut(3, false));
        Check.due("about(4)", x.about(4), 1);
        for (int link : new int[] {0, 1, 2, 5, 6, 7, 30, 31, 36, 54, -1, -3, Integer.MAX_VALUE, Integer.MIN_VALUE}) {
            Check.unknown(x, "cut(" + link + ", true)", () -> x.cut(link, true));
            Check.unknown(x, "cut(" + link + ", false)", () -> x.cut(link, false));
        }
        x.open(0, 0, 1, 1, 1);
        Check.state(x, "cut of a link of a circuit", () -> x.cut(3, true));
        Check.state(x, "mending of a link of a circuit", () -> x.cut(3, false));
        Check.due("the other way", x.cut(11, true), 2);
        x.close(0);
        Check.due("cut behind close", x.cut(3, true), 3);
        Check.due("a way round", x.open(0, 0, 1, 1, 1), 0);
        Check.row("its route", place -> x.route(0, place), 0, 4, 21, 26, 7, -101);
    }

    private static void promise9CutAndStrays() {
        SlotChip x = Check.chip("2x2:4");
        x.stray(0, 1, true);
        x.run(1);
        Check.due("cut ahead of a stray", x.cut(3, true), 1);
        Check.due("it waits", x.run(40), 0);
        Check.row("straying", what -> x.straying(0, what), 1, 1, 0, 41, 3);
        x.cut(3, false);
        Check.due("it goes on", x.run(2), 1);
        Check.due("its delay", x.arrived(true, 2), 43);
    }
}
