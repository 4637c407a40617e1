/** The boundary cases of promises 6 to 9, and of ROUTERS, LINKS and PORTS, sentence by sentence. */
public final class ChipBoundariesTest {
    public static void main(String[] args) {
        promise6What();
        promise6NoChip();
        promise6Sizes();
        promise6Links();
        promise6Broken();
        promise6SlotsHad();
        promise6Time();
        promise6MostOften();
        promise6MostOftenOfLikeOnes();
        promise7Numbers();
        promise7Broken();
        promise7SlotsHad();
        promise7HowOften();
        promise7SinceTheChipWasRead();
        promise7Refusals();
        promise8Slots();
        promise8Links();
        promise8Round();
        promise9Numbers();
        promise9ItIsSo();
        promise9HowManyAre();
        promise9ACircuitHasASlotOfIt();
        promise9Several();
        Check.end("ChipBoundariesTest");
    }

    private static void promise6What() {
        Check.sentence("6: OUTSIDE: what (0 to 7)");
        SlotChip x = Check.chip("3x2:4");
        for (int what : Check.around(0, 7)) {
            Check.outside(x, "about(" + what + ")", () -> x.about(what));
        }
        Check.due("the first one", x.about(0), 3);
        Check.due("the last one", x.about(7), 0);
    }

    private static void promise6NoChip() {
        Check.sentence("6: STATE: no CHIP; OUTSIDE is ahead of it");
        SlotChip x = new SlotChip();
        Check.write(x, "2x2:4");
        for (int what = 0; what <= 7; what++) {
            int number = what;
            Check.state(x, "about(" + what + ") without a chip", () -> x.about(number));
        }
        for (int what : Check.around(0, 7)) {
            Check.outside(x, "about(" + what + ") without a chip", () -> x.about(what));
        }
    }

    private static void promise6Sizes() {
        Check.sentence("6: 0 W, 1 H, 2 S");
        for (int[] size : Sizes.ALL) {
            for (int slots = 4; slots <= 10; slots++) {
                SlotChip x = Check.chip(Sizes.text(size, slots));
                Check.row("about of " + Sizes.text(size, slots), x::about, size[0], size[1], slots);
            }
        }
    }

    private static void promise6Links() {
        Check.sentence("6: 3 how many LINKS there are");
        Check.due("2x2", Check.chip("2x2:4").about(3), 16);
        Check.due("2x3", Check.chip("2x3:4").about(3), 26);
        Check.due("3x2", Check.chip("3x2:4").about(3), 26);
        Check.due("3x3", Check.chip("3x3:4").about(3), 42);
        Check.due("broken ones are there, too", Check.chip("2x2:4-0e-0s-1s-1w-2n-2e-3n-3w").about(3), 16);
    }

    private static void promise6Broken() {
        Check.sentence("6: 4 how many are BROKEN");
        SlotChip x = Check.chip("3x3:4");
        int[] size = {3, 3};
        int many = 0;
        for (int link = 0; link < 54; link++) {
            if (Sizes.isInner(size, link)) {
                x.cut(link, true);
                many++;
                Check.due("about(4)", x.about(4), many);
            }
        }
        Check.due("all that can be", many, 24);
        Check.due("about(4) of all that a full page has", Check.chip("2x2:10-0e-0s-1s-1w-2n-2e-3n-3w").about(4), 8);
    }

    private static void promise6SlotsHad() {
        Check.sentence("6: 5 how many SLOTS of all LINKS are had");
        SlotChip x = Check.chip("2x2:4");
        Check.due("none", x.about(5), 0);
        x.open(0, 0, 1, 1, 1);
        Check.due("one start on three links", x.about(5), 3);
        x.open(0, 0, 1, 3, 1);
        x.open(0, 1, 3, 4, 1);
        x.open(0, 3, 2, 4, 1);
        x.open(0, 2, 0, 4, 1);
        Check.due("all slots of IN and OUT of all routers, and of four links more", x.about(5), 48);
        Check.state(x, "no more circuit", () -> x.open(2, 1, 0, 1, 1));
        for (int circuit = 4; circuit >= 0; circuit--) {
            x.close(circuit);
        }
        Check.due("none again", x.about(5), 0);
        SlotChip y = Check.chip("3x3:10-0e-3e-7n-5w");
        y.open(0, 0, 2, 4, 1);
        Check.due("four starts on the eight links of six hops", y.about(5), 32);
    }

    private static void promise6Time() {
        Check.sentence("6: 6 TIME");
        SlotChip x = Check.chip("2x2:4");
        Check.due("at first", x.about(6), 0);
        x.run(1);
        Check.due("behind one cycle", x.about(6), 1);
        x.run(40);
        Check.due("behind 40 more", x.about(6), 41);
        x.run(41);
        x.run(0);
        Check.due("behind refused ones", x.about(6), 41);
        Check.read(x, "2x2:4");
        Check.due("of the next chip", x.about(6), 0);
    }

    private static void promise6MostOften() {
        Check.sentence("6: 7 the LINK on which LETTERS and STRAYS were most often");
        SlotChip x = Check.chip("3x3:4");
        Check.due("open", x.open(0, 2, 6, 1, 1), 0);
        Check.due("SOUTH, SOUTH, WEST, WEST", x.route(0, 3), 53);
        x.feed(0, 1);
        x.stray(8, 7, false);
        x.run(20);
        Check.due("a letter and a stray were on the last link of all", x.link(53, 3), 2);
        Check.due("about(7)", x.about(7), 53);
        Check.read(x, "3x3:4");
        Check.due("of the next chip", x.about(7), 0);
        for (int router = 0; router < 9; router++) {
            SlotChip in = Check.chip("3x3:4");
            in.stray(router, router, false);
            in.stray(router, (router + 1) % 9, false);
            in.run(20);
            Check.due("IN of " + router, in.about(7), 6 * router);
            SlotChip out = Check.chip("3x3:4");
            out.stray(router, router, false);
            out.stray((router + 1) % 9, router, false);
            out.run(20);
            Check.due("OUT of " + router, out.about(7), 6 * router + 1);
        }
    }

    private static void promise6MostOftenOfLikeOnes() {
        Check.sentence("6: 7 .. (of like ones the least)");
        SlotChip x = Check.chip("2x2:4");
        Check.due("none was used", x.about(7), 0);
        x.stray(3, 2, false);
        x.run(1);
        Check.due("IN of 3", x.about(7), 18);
        x.run(1);
        Check.due("IN and WEST of 3", x.about(7), 18);
        x.run(1);
        Check.due("OUT of 2, a lesser one, too", x.about(7), 13);
        x.stray(3, 3, false);
        x.run(2);
        Check.due("IN of 3 twice", x.about(7), 18);
        x.stray(2, 2, false);
        x.run(2);
        Check.due("OUT of 2 twice, too", x.about(7), 13);
    }

    private static void promise7Numbers() {
        Check.sentence("1: 6 times that of its ROUTER, plus its PORT; 2 to 5 only if that is there (7: UNKNOWN; 0 NONE: OUT)");
        for (int[] size : Sizes.ALL) {
            SlotChip x = Check.chip(Sizes.text(size, 7));
            for (int link = -7; link <= 61; link++) {
                Check.due("link(" + link + ", 0) of " + Sizes.text(size, 7), x.link(link, 0), Sizes.end(size, link));
            }
            for (int link : Check.around(0, 6 * Sizes.routers(size) - 1)) {
                Check.unknown(x, "link(" + link + ", 0)", () -> x.link(link, 0));
            }
        }
    }

    private static void promise7Broken() {
        Check.sentence("7: 1 whether it is BROKEN (1, 0)");
        SlotChip x = Check.chip("2x3:4-5n");
        Check.due("broken by the text", x.link(32, 1), 1);
        Check.due("the other way", x.link(22, 1), 0);
        Check.due("IN", x.link(30, 1), 0);
        Check.due("OUT", x.link(31, 1), 0);
        x.cut(22, true);
        Check.due("broken by cut()", x.link(22, 1), 1);
        x.cut(32, false);
        Check.due("mended", x.link(32, 1), 0);
        Check.due("a broken one leads there still", x.link(22, 0), 5);
    }

    private static void promise7SlotsHad() {
        Check.sentence("7: 2 how many of its SLOTS are had");
        for (int slots = 4; slots <= 10; slots++) {
            SlotChip x = Check.chip("2x2:" + slots);
            for (int many = 1; many <= Math.min(8, slots); many++) {
                Check.due("none of another link", x.link(6, 2), 0);
                x.open(0, 0, 1, 1, 1);
                Check.row("IN, OUT of 0", link -> x.link(link, 2), many, 0);
                Check.due("EAST of 0", x.link(3, 2), many);
                Check.due("OUT of 1", x.link(7, 2), many);
            }
        }
        SlotChip full = Check.chip("2x2:10");
        full.open(0, 0, 1, 4, 1);
        full.open(0, 0, 1, 4, 1);
        full.open(0, 0, 1, 2, 1);
        Check.due("all of ten", full.link(3, 2), 10);
    }

    private static void promise7HowOften() {
        Check.sentence("7: 3 how often a LETTER or a STRAY was on it in a CYCLE");
        SlotChip x = Check.chip("2x2:4");
        x.open(0, 0, 1, 1, 2);
        x.feed(0, 3);
        int[][] wants = {{1, 0, 0}, {1, 1, 0}, {1, 1, 1}, {1, 1, 1}, {2, 1, 1}, {2, 2, 1}, {2, 2, 2}};
        for (int[] want : wants) {
            x.run(1);
            Check.row("IN, EAST, OUT", place -> x.link(x.route(0, place), 3), want);
        }
        x.run(40);
        Check.row("without credits none is on them", place -> x.link(x.route(0, place), 3), 2, 2, 2);
        x.cut(4, true);
        x.stray(0, 2, false);
        x.run(40);
        Check.due("a stray that waits outside of no link", x.link(0, 3), 3);
        Check.due("and was not on the broken one", x.link(4, 3), 0);
        SlotChip y = Check.chip("2x2:4");
        y.open(0, 0, 1, 4, 3);
        y.open(0, 1, 0, 4, 3);
        y.pair(0, 1);
        y.feed(0, 3);
        y.run(8);
        Check.row("the back's links: no letter yet", place -> y.link(y.route(1, place), 3), 0, 0, 0);
        y.take(0, 1);
        y.run(8);
        Check.row("a letter with OWED alone was on them", place -> y.link(y.route(1, place), 3), 1, 1, 1);
    }

    private static void promise7SinceTheChipWasRead() {
        Check.sentence("7: 3 .. since the CHIP was read");
        SlotChip x = Check.chip("2x2:4");
        x.stray(0, 0, false);
        x.run(2);
        Check.row("then", link -> x.link(link, 3), 1, 1);
        Check.read(x, "2x2:5");
        Check.row("behind the next chip()", link -> x.link(link, 3), 0, 0);
        x.stray(0, 0, false);
        x.run(2);
        Check.write(x, "2x2:");
        x.chip();
        Check.row("behind a refused chip()", link -> x.link(link, 3), 1, 1);
        x.stray(0, 1, false);
        x.run(3);
        Check.due("EAST", x.link(3, 3), 1);
        x.cut(3, true);
        Check.due("EAST, broken", x.link(3, 3), 1);
        x.cut(3, false);
        Check.due("EAST, mended", x.link(3, 3), 1);
        x.open(0, 0, 1, 1, 1);
        x.feed(0, 1);
        x.run(9);
        Check.due("and a letter", x.link(3, 3), 2);
        x.move(0);
        Check.due("moved", x.link(3, 3), 2);
        x.close(0);
        Check.due("closed", x.link(3, 3), 2);
    }

    private static void promise7Refusals() {
        Check.sentence("7: UNKNOWN: link (there is none such, or no CHIP); OUTSIDE: what (0 to 3)");
        SlotChip x = Check.chip("2x2:4");
        SlotChip none = new SlotChip();
        for (int what : Check.around(0, 3)) {
            Check.outside(x, "link(0, " + what + ")", () -> x.link(0, what));
            Check.outside(x, "link(23, " + what + ")", () -> x.link(23, what));
            Check.unknown(x, "link(2, " + what + "), both", () -> x.link(2, what));
            Check.unknown(x, "link(24, " + what + "), both", () -> x.link(24, what));
            Check.unknown(none, "link(0, " + what + "), no chip", () -> none.link(0, what));
        }
        for (int what = 0; what <= 3; what++) {
            Check.due("link(0, " + what + ") without a chip", none.link(0, what), -101);
            Check.due("link(2, " + what + ")", x.link(2, what), -101);
        }
        Check.due("the first what", x.link(23, 0), 2);
        Check.due("the last what", x.link(23, 3), 0);
    }

    private static void promise8Slots() {
        Check.sentence("8: UNKNOWN: slot (0 to S - 1)");
        for (int slots = 4; slots <= 10; slots++) {
            SlotChip x = Check.chip("2x2:" + slots);
            Check.due("the first one", x.slot(0, 0), -1);
            Check.due("the last one", x.slot(0, slots - 1), -1);
            for (int slot : Check.around(0, slots - 1)) {
                Check.unknown(x, "slot(0, " + slot + ")", () -> x.slot(0, slot));
            }
        }
        SlotChip x = Check.chip("2x2:10");
        Check.read(x, "2x2:4");
        Check.unknown(x, "a slot of the chip that is gone", () -> x.slot(0, 4));
    }

    private static void promise8Links() {
        Check.sentence("8: UNKNOWN: link");
        for (int[] size : Sizes.ALL) {
            SlotChip x = Check.chip(Sizes.text(size, 4));
            for (int link = -7; link <= 61; link++) {
                int want = Sizes.end(size, link) == Sizes.MISSING ? -101 : -1;
                Check.due("slot(" + link + ", 3)", x.slot(link, 3), want);
            }
            for (int link : Check.around(0, 6 * Sizes.routers(size) - 1)) {
                Check.unknown(x, "slot(" + link + ", 0)", () -> x.slot(link, 0));
                Check.unknown(x, "slot(" + link + ", 4)", () -> x.slot(link, 4));
            }
        }
        SlotChip none = new SlotChip();
        Check.unknown(none, "slot without a chip", () -> none.slot(0, 0));
    }

    /** Circuits of one start each, by six hops: each has, of link K, its start plus K, less S as often as needed. */
    private static void promise8Round() {
        Check.sentence("2: the SLOT START plus K, less S as often as it is not below S");
        for (int slots = 4; slots <= 10; slots++) {
            SlotChip x = Check.chip("3x3:" + slots + "-0e-3e-7n-5w");
            int many = Math.min(8, slots);
            for (int circuit = 0; circuit < many; circuit++) {
                x.open(0, 0, 2, 1, 1);
            }
            int[] route = {0, 4, 22, 39, 45, 50, 32, 13};
            for (int k = 0; k < 8; k++) {
                Check.due("route", x.route(many - 1, k), route[k]);
                for (int start = 0; start < slots; start++) {
                    int slot = start + k;
                    while (slot >= slots) {
                        slot -= slots;
                    }
                    int owner = start < many ? start : -1;
                    Check.due("slot(" + route[k] + ", " + slot + ") of " + slots, x.slot(route[k], slot), owner);
                }
            }
        }
    }

    private static void promise9Numbers() {
        Check.sentence("9: UNKNOWN: link (also PORT 0, 1)");
        for (int[] size : Sizes.ALL) {
            SlotChip x = Check.chip(Sizes.text(size, 4));
            int many = 0;
            for (int link = -7; link <= 61; link++) {
                many += Sizes.isInner(size, link) ? 1 : 0;
                Check.due("cut(" + link + ", true)", x.cut(link, true), Sizes.isInner(size, link) ? many : -101);
                Check.due("about(4)", x.about(4), many);
            }
            for (int link : Check.around(0, 6 * Sizes.routers(size) - 1)) {
                Check.unknown(x, "cut(" + link + ", true)", () -> x.cut(link, true));
                Check.unknown(x, "cut(" + link + ", false)", () -> x.cut(link, false));
            }
        }
        SlotChip none = new SlotChip();
        Check.unknown(none, "cut(3, true) without a chip", () -> none.cut(3, true));
        Check.unknown(none, "cut(3, false) without a chip", () -> none.cut(3, false));
    }

    private static void promise9ItIsSo() {
        Check.sentence("9: STATE: it is so");
        SlotChip x = Check.chip("2x2:4-0e");
        Check.state(x, "broken by the text", () -> x.cut(3, true));
        Check.state(x, "not broken", () -> x.cut(4, false));
        Check.due("broken", x.cut(4, true), 2);
        Check.state(x, "broken by cut()", () -> x.cut(4, true));
        Check.due("mended", x.cut(3, false), 1);
        Check.state(x, "mended by cut()", () -> x.cut(3, false));
        Check.due("broken again", x.cut(3, true), 2);
    }

    private static void promise9HowManyAre() {
        Check.sentence("9: A LINK is BROKEN, or no more: how many are");
        int[] size = {3, 3};
        SlotChip x = Check.chip("3x3:4");
        int many = 0;
        for (int link = 0; link < 54; link++) {
            if (Sizes.isInner(size, link)) {
                many++;
                Check.due("cut(" + link + ", true)", x.cut(link, true), many);
                Check.due("link(" + link + ", 1)", x.link(link, 1), 1);
            }
        }
        Check.state(x, "no way is left", () -> x.open(2, 4, 5, 1, 1));
        for (int link = 53; link >= 0; link--) {
            if (Sizes.isInner(size, link)) {
                many--;
                Check.due("cut(" + link + ", false)", x.cut(link, false), many);
                Check.due("link(" + link + ", 1)", x.link(link, 1), 0);
            }
        }
        Check.due("none", many, 0);
    }

    private static void promise9ACircuitHasASlotOfIt() {
        Check.sentence("9: STATE: a CIRCUIT HAS a SLOT of it");
        SlotChip x = Check.chip("3x3:10-0e-3e-7n-5w");
        x.open(0, 0, 2, 1, 1);
        for (int place = 1; place <= 6; place++) {
            int link = x.route(0, place);
            Check.state(x, "one slot of ten, on hop " + place, () -> x.cut(link, true));
            Check.state(x, "it is no broken one, either", () -> x.cut(link, false));
        }
        Check.due("the other way", x.cut(20, true), 5);
        x.cut(3, false);
        Check.due("a shorter way", x.move(0), 2);
        Check.state(x, "a link that it has then", () -> x.cut(3, true));
        Check.due("one that it has no more", x.cut(22, true), 5);
        x.close(0);
        Check.due("behind close()", x.cut(3, true), 6);
    }

    private static void promise9Several() {
        Check.sentence("9: UNKNOWN is ahead of STATE");
        SlotChip x = Check.chip("2x2:4");
        x.open(0, 0, 1, 4, 1);
        for (boolean broken : new boolean[] {true, false}) {
            Check.unknown(x, "IN of a circuit", () -> x.cut(0, broken));
            Check.unknown(x, "OUT of a circuit", () -> x.cut(7, broken));
            Check.state(x, "its hop", () -> x.cut(3, broken));
        }
    }
}
