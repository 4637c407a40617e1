/** Promises 1 to 5: a new object, letter, blank, fault, chip. */
public final class TextPromisesTest {
    public static void main(String[] args) {
        promise1NewObject();
        promise2Letter();
        promise3Blank();
        promise4Fault();
        promise4FaultWhereNoLinkIsLeft();
        promise5Chip();
        promise5AnotherChipIsGone();
        Check.end("TextPromisesTest");
    }

    private static void promise1NewObject() {
        SlotChip x = new SlotChip();
        for (int what = 0; what <= 7; what++) {
            int number = what;
            Check.state(x, "about without a chip", () -> x.about(number));
        }
        Check.unknown(x, "link without a chip", () -> x.link(0, 0));
        Check.unknown(x, "slot without a chip", () -> x.slot(0, 0));
        Check.unknown(x, "cut without a chip", () -> x.cut(3, true));
        Check.unknown(x, "circuit without a chip", () -> x.circuit(0, 0));
        Check.unknown(x, "straying without a chip", () -> x.straying(0, 0));
        Check.row("count", x::count, 0, 0, 0, 0, 0, 0, 0);
        Check.row("arrived urgent", what -> x.arrived(true, what), 0, 0, 0);
        Check.row("arrived", what -> x.arrived(false, what), 0, 0, 0);
        Check.due("fault()", x.fault(), 0);
        Check.due("fastest()", x.fastest(), -1);
        Check.due("faster()", x.faster(), -2);
    }

    private static void promise2Letter() {
        SlotChip x = new SlotChip();
        Check.due("letter(32)", x.letter(32), 1);
        Check.due("letter(126)", x.letter(126), 2);
        for (int code : new int[] {31, 127, 0, -1, 300, Integer.MAX_VALUE, Integer.MIN_VALUE}) {
            Check.outside(x, "letter(" + code + ")", () -> x.letter(code));
        }
        for (int many = 3; many <= 30; many++) {
            Check.due("letter 'a'", x.letter('a'), many);
        }
        Check.full(x, "letter on a full page", () -> x.letter('a'));
        Check.outside(x, "letter(31) on a full page", () -> x.letter(31));
        Check.due("blank()", x.blank(), 30);
        Check.due("letter behind blank()", x.letter('a'), 1);
    }

    private static void promise3Blank() {
        SlotChip x = Check.chip("2x2:4");
        Check.due("blank() of an empty page", x.blank(), 0);
        Check.write(x, "3x3:");
        Check.due("blank()", x.blank(), 4);
        Check.due("blank() again", x.blank(), 0);
        Check.due("count(5)", x.count(5), 0);
        Check.due("the chip stays", x.about(0), 2);
        Check.write(x, "x");
        Check.due("nothing of the old page is left", x.fault(), 0);
    }

    private static void fault(String text, int want) {
        SlotChip x = new SlotChip();
        Check.write(x, text);
        Check.due("fault() of \"" + text + "\"", x.fault(), want);
        Check.due("fault() of \"" + text + "\" again", x.fault(), want);
        Check.due("the page behind fault()", x.count(5), text.length());
    }

    private static void promise4Fault() {
        fault("", 0);
        fault("1x2:4", 0);
        fault("4x2:4", 0);
        fault(" 2x2:4", 0);
        fault("2", 1);
        fault("2X2:4", 1);
        fault("22", 1);
        fault("2x", 2);
        fault("2x1:4", 2);
        fault("3x4", 2);
        fault("3x3", 3);
        fault("3x3;4", 3);
        fault("3x3:", 4);
        fault("3x3:0", 4);
        fault("3x3:2", 4);
        fault("3x3:3", 4);
        fault("3x3:-", 4);
        fault("3x3:<", 4);
        fault("3x3::", 4);
        fault("3x3:/", 4);
        fault("3x3:1", 5);
        fault("3x3:1-", 5);
        fault("3x3:12", 5);
        fault("3x3:10", 6);
        fault("3x3:100", 6);
        fault("3x3:4", 5);
        fault("3x3:9", 5);
        fault("3x3:90", 5);
        fault("3x3:9 ", 5);
        fault("3x3:9-", 6);
        fault("3x3:9--", 6);
        fault("3x3:9-9", 6);
        fault("3x3:9-e", 6);
        fault("3x3:9-8", 7);
        fault("3x2:9-6", 6);
        fault("2x3:9-6", 6);
        fault("2x2:9-4", 6);
        fault("2x2:9-3", 7);
        fault("3x3:9-8e", 7);
        fault("3x3:9-8s", 7);
        fault("3x3:9-0n", 7);
        fault("3x3:9-0w", 7);
        fault("3x3:9-0N", 7);
        fault("3x3:9-0-", 7);
        fault("3x3:9-8n", 8);
        fault("3x2:9-2s-5n", 11);
        fault("3x2:9-2e", 7);
        fault("2x3:9-2e", 8);
        fault("3x3:10-4n-4e-4s-4w", 18);
        fault("3x3:10-4n-4e-4s-4w4", 18);
        fault("3x3:9-8n-8n", 10);
        fault("3x3:9-8w-0e-8n-0e", 16);
    }

    /** A letter behind which no chip can go on is a fault, even if it looks like one that could. */
    private static void promise4FaultWhereNoLinkIsLeft() {
        fault("3x3:9-8n-8w-8", 12);
        fault("3x3:9-8n-8w-7", 13);
        fault("2x2:10-0e-0s-0", 13);
        String all = "-0e-0s-1s-1w-2n-2e-3n-3w";
        fault("2x2:4" + all, 29);
        fault("2x2:4" + all + "-", 29);
        fault("2x2:10" + all, 30);
        fault("2x3:4" + "-0e-0s-1s-1w-2n-2e-3n-3w" + "-", 30);
        fault("3x3:4" + "-4n-4e-4s-4w-0e-0s-1e-1s" + "-", 30);
    }

    private static void chip(String text, int want) {
        SlotChip x = new SlotChip();
        Check.write(x, text);
        Check.due("chip() of \"" + text + "\"", x.chip(), want);
        Check.due("the page behind chip()", x.count(5), 0);
        Check.due("count(6)", x.count(6), 1);
    }

    private static void noChip(String text) {
        SlotChip x = Check.chip("3x2:7-0e");
        Check.write(x, text);
        Check.state(x, "chip() of \"" + text + "\"", x::chip);
        Check.due("the page behind a refused chip()", x.count(5), text.length());
        Check.row("about", x::about, 3, 2, 7, 26, 1, 0, 0, 0);
        Check.due("count(6)", x.count(6), 1);
    }

    private static void promise5Chip() {
        chip("2x2:4", 4);
        chip("2x3:9", 6);
        chip("3x2:10", 6);
        chip("3x3:5", 9);
        chip("3x3:10-8w-8n", 9);
        chip("2x2:10-0e-0s-1s-1w-2n-2e-3n-3w", 4);
        for (String text : new String[] {"", "2", "2x", "2x2", "2x2:", "2x2:1", "2x2:4-", "2x2:4-0", "2x2:3", "2x2:11",
            "2x2:4-0n", "2x2:4-0e-0e", "2x2:4-0e ", "2x2:44", "4x2:4", "2x2:10-", "2x2:10-3", "a"}) {
            noChip(text);
        }
    }

    private static void promise5AnotherChipIsGone() {
        SlotChip x = Check.chip("2x2:4-3n");
        x.open(0, 0, 1, 1, 5);
        x.feed(0, 9);
        x.stray(0, 3, true);
        x.stray(2, 2, true);
        x.stray(1, 1, false);
        x.run(2);
        x.stray(3, 3, false);
        x.run(1);
        Check.due("TIME ahead of the next chip", x.about(6), 3);
        Check.due("the next chip", Check.read(x, "3x3:6"), 9);
        Check.row("about", x::about, 3, 3, 6, 42, 0, 0, 0, 0);
        Check.row("count", x::count, 0, 0, 0, 0, 0, 0, 2);
        Check.row("arrived urgent", what -> x.arrived(true, what), 0, 0, 0);
        Check.row("arrived", what -> x.arrived(false, what), 0, 0, 0);
        Check.unknown(x, "the old circuit", () -> x.circuit(0, 0));
        Check.unknown(x, "the old stray", () -> x.straying(0, 0));
        for (int link = 0; link < 54; link++) {
            Check.due("link 3 of the new chip", Math.max(0, x.link(link, 3)), 0);
            Check.due("link 1 of the new chip", Math.max(0, x.link(link, 1)), 0);
        }
        Check.due("a new circuit", x.open(0, 0, 1, 4, 2), 0);
        Check.due("no letter of the old one is left", x.run(12), 0);
        Check.due("its starts", x.start(0, 0), 0);
        Check.due("a smaller chip", Check.read(x, "2x2:4"), 4);
        Check.unknown(x, "a link of the greater one", () -> x.link(24, 0));
        Check.unknown(x, "a slot of the greater one", () -> x.slot(0, 4));
    }
}
