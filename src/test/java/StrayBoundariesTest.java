/** The boundary cases of promises 21 to 24 and 26, and of STRAYS in a CYCLE, sentence by sentence. */
public final class StrayBoundariesTest {
    public static void main(String[] args) {
        promise21Routers();
        promise21Twelve();
        promise21Several();
        promise22Which();
        promise22What();
        promise22CyclesBegan();
        promise22InOrder();
        nextLinks();
        oneOfALink();
        asTheCycleBegins();
        brokenLink();
        letterOnTheLink();
        letterWithOwedAlone();
        slotOfASoloOne();
        promise23What();
        promise23Delays();
        promise23SinceTheChipWasRead();
        promise24NoneArrived();
        promise24NotCut();
        promise24FarFromCut();
        promise26Many();
        promise26Seed();
        promise26UpToTwelve();
        promise26Draws();
        promise26BySeedAlone();
        promise26Several();
        Check.end("StrayBoundariesTest");
    }

    private static void promise21Routers() {
        Check.sentence("21: UNKNOWN: from, to (they can be the same)");
        for (int[] size : Sizes.ALL) {
            int routers = Sizes.routers(size);
            for (int from = -1; from <= 9; from++) {
                for (int to = -1; to <= 9; to++) {
                    SlotChip x = Check.chip(Sizes.text(size, 4));
                    boolean allowed = from >= 0 && from < routers && to >= 0 && to < routers;
                    Check.due("stray from " + from + " to " + to, x.stray(from, to, true), allowed ? 1 : -101);
                    Check.due("count(2)", x.count(2), allowed ? 1 : 0);
                }
            }
            SlotChip x = Check.chip(Sizes.text(size, 4));
            for (int router : Check.around(0, routers - 1)) {
                Check.unknown(x, "from " + router, () -> x.stray(router, 0, true));
                Check.unknown(x, "to " + router, () -> x.stray(0, router, false));
            }
        }
    }

    private static SlotChip withTwelve() {
        SlotChip x = Check.chip("3x3:4");
        for (int many = 1; many <= 12; many++) {
            Check.due("how many are under way", x.stray(many % 9, 8 - many % 9, many % 2 == 0), many);
        }
        return x;
    }

    private static void promise21Twelve() {
        Check.sentence("21: FULL; 3: twelve at most under way");
        SlotChip x = withTwelve();
        for (int router = 0; router < 9; router++) {
            int same = router;
            Check.full(x, "a thirteenth one", () -> x.stray(same, same, true));
            Check.full(x, "a thirteenth one", () -> x.stray(same, 8, false));
        }
        Check.due("twelve", x.count(2), 12);
        SlotChip y = Check.chip("2x2:4");
        for (int many = 1; many <= 12; many++) {
            y.stray(0, 0, false);
        }
        y.run(1);
        Check.full(y, "one is in a router, it is under way still", () -> y.stray(1, 1, true));
        Check.due("one goes out", y.run(1), 1);
        Check.due("and one can come", y.stray(1, 1, true), 12);
        Check.full(y, "no other one", () -> y.stray(1, 1, true));
    }

    private static void promise21Several() {
        Check.sentence("21: STATE: no CHIP; UNKNOWN; FULL");
        SlotChip none = new SlotChip();
        Check.state(none, "no chip", () -> none.stray(0, 0, true));
        Check.state(none, "no chip, from nowhere", () -> none.stray(-1, 9, false));
        SlotChip x = withTwelve();
        Check.unknown(x, "a thirteenth one from nowhere", () -> x.stray(9, 0, true));
        Check.unknown(x, "a thirteenth one to nowhere", () -> x.stray(0, -1, true));
        Check.full(x, "a thirteenth one", () -> x.stray(0, 0, true));
    }

    private static void promise22Which() {
        Check.sentence("22: UNKNOWN: a STRAY that is under way (from 0)");
        SlotChip x = Check.chip("3x3:4");
        for (int many = 0; many <= 12; many++) {
            for (int stray : Check.around(0, many - 1)) {
                Check.unknown(x, "straying(" + stray + ", 0) of " + many, () -> x.straying(stray, 0));
            }
            for (int stray = 0; stray < many; stray++) {
                Check.due("TO", x.straying(stray, 0), stray % 9);
            }
            x.stray(8, many % 9, false);
        }
        x.run(40);
        for (int stray = 0; stray < 12; stray++) {
            Check.due("all went out", x.straying(stray, 0), -101);
        }
    }

    private static void promise22What() {
        Check.sentence("22: OUTSIDE: what (0 to 4), behind UNKNOWN");
        SlotChip x = withTwelve();
        for (int what : Check.around(0, 4)) {
            Check.outside(x, "straying(0, " + what + ")", () -> x.straying(0, what));
            Check.outside(x, "straying(11, " + what + ")", () -> x.straying(11, what));
            Check.unknown(x, "straying(12, " + what + "), both", () -> x.straying(12, what));
            Check.unknown(x, "straying(-1, " + what + "), both", () -> x.straying(-1, what));
        }
        Check.row("the first one", what -> x.straying(0, what), 7, 0, -1, 0, 6, -102);
        Check.row("the last one", what -> x.straying(11, what), 5, 1, -1, 0, 18, -102);
        SlotChip none = new SlotChip();
        Check.unknown(none, "without a chip", () -> none.straying(0, 5));
    }

    private static void promise22CyclesBegan() {
        Check.sentence("22: 3 how many CYCLES began since it came");
        SlotChip x = Check.chip("2x2:4-0e");
        x.run(40);
        x.stray(0, 1, true);
        Check.due("none", x.straying(0, 3), 0);
        for (int began = 1; began <= 3; began++) {
            x.run(1);
            Check.due("one more", x.straying(0, 3), began);
        }
        x.run(40);
        x.stray(0, 1, true);
        Check.due("of the first one", x.straying(0, 3), 43);
        Check.due("of the second one", x.straying(1, 3), 0);
    }

    private static void promise22InOrder() {
        Check.sentence("22: that which came first ahead");
        SlotChip x = Check.chip("2x2:4-0e-2e");
        for (int many = 0; many < 12; many++) {
            x.stray(many % 2 == 0 ? 0 : 3, many % 2 == 0 ? 1 : 3, many % 3 == 0);
        }
        x.run(40);
        Check.due("six went out of the midst", x.count(2), 6);
        Check.row("urgent ones of those left", stray -> x.straying(stray, 1), 1, 0, 0, 1, 0, 0, -101);
        x.stray(2, 3, true);
        Check.row("the last one is behind them", what -> x.straying(6, what), 3, 1, -1, 0, 12);
        x.cut(3, false);
        x.run(2);
        Check.row("the urgent ones went out, the others stay in order", stray -> x.straying(stray, 1), 0, 0, 1, 0, 0, 1, -101);
        Check.row("TO of them", stray -> x.straying(stray, 0), 1, 1, 1, 1, 1, 3, -101);
    }

    private static void nextLinks() {
        Check.sentence("3: The next LINK of one: IN; OUT; EAST or WEST, as long as X is not that of TO, then NORTH or SOUTH");
        for (int[] size : Sizes.ALL) {
            for (int from = 0; from < Sizes.routers(size); from++) {
                for (int to = 0; to < Sizes.routers(size); to++) {
                    follow(size, from, to);
                }
            }
        }
    }

    private static void follow(int[] size, int from, int to) {
        SlotChip x = Check.chip(Sizes.text(size, 4));
        x.stray(from, to, false);
        Check.row("outside", what -> x.straying(0, what), to, 0, -1, 0, 6 * from);
        int at = from;
        int cycles = 1;
        x.run(1);
        while (at != to) {
            int dx = to % size[0] - at % size[0];
            int port = dx > 0 ? 3 : dx < 0 ? 5 : to > at ? 4 : 2;
            Check.row("at " + at, what -> x.straying(0, what), to, 0, at, cycles, 6 * at + port);
            at = Sizes.end(size, 6 * at + port);
            Check.due("under way", x.run(1), 0);
            cycles++;
        }
        Check.row("at its end", what -> x.straying(0, what), to, 0, to, cycles, 6 * to + 1);
        Check.due("out", x.run(1), 1);
        Check.due("its DELAY", x.arrived(false, 2), cycles + 1);
        Check.due("none is under way", x.count(2), 0);
    }

    private static void oneOfALink() {
        Check.sentence("3: of all STRAYS whose next LINK is one and the same, one goes on: an urgent one first, of these "
            + "the one that came first");
        for (int urgent = 0; urgent < 64; urgent++) {
            SlotChip x = Check.chip("2x2:4");
            int[] order = new int[6];
            int many = 0;
            for (int stray = 0; stray < 6; stray++) {
                x.stray(0, stray % 3 + 1, (urgent >> stray & 1) == 1);
            }
            for (int pass = 1; pass >= 0; pass--) {
                for (int stray = 0; stray < 6; stray++) {
                    if ((urgent >> stray & 1) == pass) {
                        order[many] = stray;
                        many++;
                    }
                }
            }
            for (int cycle = 0; cycle < 2; cycle++) {
                x.run(1);
                int gone = order[cycle];
                int outside = 0;
                for (int stray = 0; stray < 6; stray++) {
                    outside += x.straying(stray, 2) == -1 ? 1 : 0;
                }
                Check.due("one in each cycle", outside, 5 - cycle);
                Check.due("IN was used once a cycle", x.link(0, 3), cycle + 1);
                Check.due("that one went in, urgent " + urgent, x.straying(gone, 2) == -1 ? 1 : 0, 0);
            }
        }
        SlotChip all = Check.chip("2x2:4");
        for (int stray = 0; stray < 12; stray++) {
            all.stray(stray % 4, stray % 4, stray >= 8);
        }
        all.run(1);
        Check.row("one at each router, the urgent one", stray -> all.straying(stray, 2), -1, -1, -1, -1, -1, -1, -1, -1, 0,
            1, 2, 3);
    }

    private static void asTheCycleBegins() {
        Check.sentence("3: whose next LINK (as the CYCLE begins)");
        SlotChip x = Check.chip("3x2:4");
        x.stray(0, 2, false);
        x.run(1);
        x.stray(1, 2, true);
        x.run(1);
        Check.row("both come to 1 in one cycle", stray -> x.straying(stray, 2), 1, 1);
        x.run(1);
        Check.row("the urgent one goes on, the other one waits", stray -> x.straying(stray, 2), 1, 2);
        x.run(1);
        Check.due("no one goes over two links in a cycle", x.straying(0, 2), 2);
        SlotChip y = Check.chip("3x2:4");
        y.stray(0, 2, true);
        y.stray(0, 2, false);
        y.run(1);
        y.run(1);
        Check.row("the link that one leaves is for the next cycle", stray -> y.straying(stray, 2), 1, 0);
    }

    private static void brokenLink() {
        Check.sentence("3: unless that LINK is BROKEN");
        SlotChip x = Check.chip("2x2:4-0e");
        x.stray(0, 1, true);
        x.stray(0, 3, false);
        x.stray(0, 2, false);
        x.run(3);
        Check.row("those by EAST wait, there is another way for none", stray -> x.straying(stray, 2), 0, 0, 0);
        Check.due("SOUTH is whole", x.run(2), 1);
        Check.due("the others wait for ever", x.run(40), 0);
        x.cut(3, false);
        x.run(1);
        Check.row("mended: one goes on", stray -> x.straying(stray, 2), 1, 0);
        x.cut(3, true);
        Check.due("broken again: one is ahead of it", x.run(40), 1);
        Check.row("the other one waits", what -> x.straying(0, what), 3, 0, 0, 86, 3);
    }

    private static void letterOnTheLink() {
        Check.sentence("3: or a LETTER is on it in this CYCLE");
        SlotChip x = Check.chip("2x2:4");
        x.open(0, 0, 1, 4, 3);
        x.feed(0, 3);
        x.stray(0, 1, true);
        x.run(3);
        Check.due("letters are on IN in three cycles", x.straying(0, 2), -1);
        x.run(1);
        Check.due("the fourth one is free: no credits", x.straying(0, 2), 0);
        x.run(1);
        Check.due("it goes behind the last letter", x.straying(0, 2), 1);
        Check.due("out", x.run(1), 1);
        Check.row("IN, EAST, OUT", place -> x.link(x.route(0, place), 3), 4, 4, 4);
        SlotChip y = Check.chip("2x2:4");
        y.open(0, 0, 1, 1, 3);
        y.feed(0, 1);
        y.stray(1, 1, false);
        y.run(1);
        y.stray(1, 1, false);
        Check.due("the first one goes out ahead of the letter", y.run(1), 1);
        Check.due("OUT is the letter's", y.run(1), 1);
        Check.due("the second one waits", y.straying(0, 2), 1);
        Check.due("and goes out behind it", y.run(1), 1);
        Check.due("DELAYS", y.arrived(false, 1), 5);
    }

    private static void letterWithOwedAlone() {
        Check.sentence("3: or a LETTER is on it in this CYCLE (one with OWED alone is a LETTER, too)");
        SlotChip x = Check.chip("2x2:4");
        x.open(0, 0, 1, 4, 15);
        x.open(0, 1, 0, 4, 1);
        x.pair(0, 1);
        x.feed(0, 9);
        x.run(12);
        x.take(0, 7);
        x.stray(1, 1, true);
        x.run(3);
        Check.due("7 of OWED go by three letters, IN is theirs", x.straying(0, 2), -1);
        x.run(1);
        Check.due("then it is free", x.straying(0, 2), 1);
        Check.due("out", x.run(1), 1);
        Check.due("DELAY", x.arrived(true, 2), 5);
        x.take(0, 1);
        x.stray(0, 0, false);
        x.run(1);
        x.stray(0, 0, true);
        Check.due("OUT is free, the letter is on WEST", x.run(1), 1);
        Check.due("OUT is the letter's", x.run(1), 0);
        Check.due("behind it", x.run(1), 1);
    }

    private static void slotOfASoloOne() {
        Check.sentence("3: or its SLOT, the rest of TIME by S, is had by a SOLO CIRCUIT");
        for (int slots = 4; slots <= 10; slots++) {
            for (int time = 0; time < 2 * slots; time++) {
                for (int kind = 0; kind <= 4; kind += 4) {
                    SlotChip x = Check.chip("2x2:" + slots);
                    x.open(kind, 0, 1, 2, 1);
                    for (int cycle = 0; cycle < time; cycle++) {
                        x.run(1);
                    }
                    x.stray(0, 0, true);
                    x.run(1);
                    boolean waits = kind == 4 && time % slots < 2;
                    Check.due("kind " + kind + ", time " + time + " of " + slots, x.straying(0, 2), waits ? -1 : 0);
                }
            }
        }
        SlotChip x = Check.chip("2x2:4");
        x.open(4, 0, 1, 3, 1);
        x.stray(2, 1, true);
        x.stray(2, 1, true);
        x.run(9);
        Check.due("slot 1 of four on OUT of 1 is free", x.link(7, 3), 1);
        x.close(0);
        Check.due("all are free, when it is closed", x.run(1), 1);
    }

    private static void promise23What() {
        Check.sentence("23: OUTSIDE: what (0 to 2)");
        SlotChip x = Check.chip("2x2:4");
        SlotChip none = new SlotChip();
        for (int what : Check.around(0, 2)) {
            for (boolean urgent : new boolean[] {true, false}) {
                Check.outside(x, "arrived(" + urgent + ", " + what + ")", () -> x.arrived(urgent, what));
                Check.outside(none, "arrived(" + urgent + ", " + what + ")", () -> none.arrived(urgent, what));
            }
        }
        Check.row("none, without a chip", what -> none.arrived(true, what), 0, 0, 0, -102);
        Check.row("none, with one", what -> x.arrived(false, what), 0, 0, 0, -102);
    }

    private static void promise23Delays() {
        Check.sentence("23: 0 how many, 1 their DELAYS together, 2 the greatest");
        SlotChip x = Check.chip("2x2:4");
        for (int many = 0; many < 12; many++) {
            x.stray(0, 0, true);
        }
        int sum = 0;
        x.run(1);
        for (int many = 1; many <= 12; many++) {
            sum += many + 1;
            Check.due("one in each cycle", x.run(1), 1);
            Check.row("urgent ones", what -> x.arrived(true, what), many, sum, many + 1);
            Check.row("others", what -> x.arrived(false, what), 0, 0, 0);
        }
        x.stray(1, 1, true);
        x.stray(1, 1, false);
        x.run(9);
        Check.row("the greatest stays", what -> x.arrived(true, what), 13, sum + 2, 13);
        Check.row("others", what -> x.arrived(false, what), 1, 3, 3);
        SlotChip far = Check.chip("3x3:4");
        far.run(40);
        far.stray(0, 8, false);
        far.run(6);
        Check.row("when it came does not count", what -> far.arrived(false, what), 1, 6, 6);
    }

    private static void promise23SinceTheChipWasRead() {
        Check.sentence("23: All since the CHIP was read.");
        SlotChip x = Check.chip("2x2:4");
        x.stray(0, 0, true);
        x.stray(1, 1, false);
        x.run(2);
        Check.write(x, "2x2:3");
        x.chip();
        Check.row("a refused chip()", what -> x.arrived(true, what), 1, 2, 2);
        Check.due("faster()", x.faster(), 0);
        Check.read(x, "2x2:4");
        Check.row("the next chip", what -> x.arrived(true, what), 0, 0, 0);
        Check.row("the next chip", what -> x.arrived(false, what), 0, 0, 0);
        Check.due("faster()", x.faster(), -2);
    }

    private static void promise24NoneArrived() {
        Check.sentence("24: -2: there are none ARRIVED of one of both");
        for (boolean urgent : new boolean[] {true, false}) {
            SlotChip x = Check.chip("2x2:4");
            Check.due("none at all", x.faster(), -2);
            x.stray(0, 0, urgent);
            x.stray(0, 0, urgent);
            x.run(9);
            Check.due("none of the others", x.faster(), -2);
            x.stray(0, 1, !urgent);
            x.run(2);
            Check.due("one is under way", x.faster(), -2);
            x.run(1);
            Check.due("it is there", x.faster(), urgent ? 1 : -1);
        }
        Check.due("without a chip", new SlotChip().faster(), -2);
    }

    /** So many urgent ones of DELAYS 2 and 3, against others. */
    private static void promise24NotCut() {
        Check.sentence("24: on an average (not cut): 1 less, 0 as much, -1 more");
        int[][] cases = {{1, 0, 1, 0, 0}, {0, 1, 0, 1, 0}, {1, 0, 0, 1, 1}, {0, 1, 1, 0, -1}, {1, 1, 1, 1, 0},
            {2, 1, 1, 1, 1}, {1, 2, 1, 1, -1}, {1, 1, 2, 1, -1}, {1, 1, 1, 2, 1}, {2, 2, 1, 1, 0}, {3, 2, 2, 1, -1},
            {3, 2, 4, 3, 1}, {4, 3, 3, 2, -1}, {2, 4, 1, 2, 0}};
        for (int[] one : cases) {
            SlotChip x = Check.chip("2x2:4");
            for (int part = 0; part < 4; part++) {
                for (int i = 0; i < one[part]; i++) {
                    x.stray(0, part % 2, part < 2);
                    x.run(3);
                }
            }
            Check.due("how many urgent ones", x.arrived(true, 0), one[0] + one[1]);
            Check.due("their DELAYS", x.arrived(true, 1), 2 * one[0] + 3 * one[1]);
            Check.due("DELAYS of others", x.arrived(false, 1), 2 * one[2] + 3 * one[3]);
            Check.due("faster() of " + java.util.Arrays.toString(one), x.faster(), one[4]);
        }
    }

    private static void promise24FarFromCut() {
        Check.sentence("24: on an average (not cut), a ten-thousandth apart");
        for (boolean urgent : new boolean[] {true, false}) {
            SlotChip x = Check.chip("2x2:4");
            arrive(x, urgent, 102);
            arrive(x, !urgent, 103);
            Check.due("how many", x.arrived(urgent, 0), 103);
            Check.due("how many of the others", x.arrived(!urgent, 0), 104);
            Check.due("207 by 103 is more than 209 by 104", x.faster(), urgent ? -1 : 1);
        }
    }

    /** So many of DELAY 2, by four at once, and one of DELAY 3. */
    private static void arrive(SlotChip x, boolean urgent, int many) {
        for (int stray = 0; stray < many; stray++) {
            x.stray(stray % 4, stray % 4, urgent);
            if (stray % 4 == 3 || stray == many - 1) {
                x.run(2);
            }
        }
        x.stray(0, 1, urgent);
        x.run(3);
    }

    private static void promise26Many() {
        Check.sentence("26: OUTSIDE: many (1 to 12)");
        for (int many = 1; many <= 12; many++) {
            SlotChip x = Check.chip("3x3:4");
            Check.due("storm(" + many + ", 0)", x.storm(many, 0), many);
            Check.due("under way", x.count(2), many);
        }
        SlotChip x = Check.chip("3x3:4");
        for (int many : Check.around(1, 12)) {
            Check.outside(x, "storm(" + many + ", 0)", () -> x.storm(many, 0));
        }
    }

    private static void promise26Seed() {
        Check.sentence("26: OUTSIDE: seed (0 at least)");
        for (int seed : new int[] {0, 1, 65535, 65536, 1 << 30, Integer.MAX_VALUE - 1, Integer.MAX_VALUE}) {
            SlotChip x = Check.chip("3x3:4");
            Check.due("storm(1, " + seed + ")", x.storm(1, seed), 1);
        }
        SlotChip x = Check.chip("3x3:4");
        for (int seed : new int[] {-1, -2, -65536, Integer.MIN_VALUE, Integer.MIN_VALUE + 1}) {
            Check.outside(x, "storm(1, " + seed + ")", () -> x.storm(1, seed));
            Check.outside(x, "storm(12, " + seed + ")", () -> x.storm(12, seed));
        }
    }

    private static void promise26UpToTwelve() {
        Check.sentence("26: up to twelve under way .. how many came");
        for (int before = 0; before <= 12; before++) {
            for (int many = 1; many <= 12; many++) {
                SlotChip x = Check.chip("2x3:4");
                for (int stray = 0; stray < before; stray++) {
                    x.stray(0, 5, false);
                }
                int want = Math.min(many, 12 - before);
                Check.due("storm(" + many + ", 9) behind " + before, x.storm(many, 9), want);
                Check.due("under way", x.count(2), before + want);
            }
        }
    }

    private static void promise26Draws() {
        Check.sentence("26: FROM, TO each by a DRAW of how many ROUTERS there are, urgent by a DRAW of 2 that is 1");
        java.math.BigInteger times = java.math.BigInteger.valueOf(1103515245L);
        java.math.BigInteger plus = java.math.BigInteger.valueOf(12345L);
        java.math.BigInteger rest = java.math.BigInteger.TWO.pow(31);
        for (int[] size : Sizes.ALL) {
            for (int first : new int[] {0, 1, 7, 12345, 65535, 1 << 30, Integer.MAX_VALUE - 1, Integer.MAX_VALUE}) {
                SlotChip x = Check.chip(Sizes.text(size, 4));
                x.storm(12, first);
                java.math.BigInteger seed = java.math.BigInteger.valueOf(first);
                int[] below = {Sizes.routers(size), Sizes.routers(size), 2};
                for (int stray = 0; stray < 12; stray++) {
                    int[] drawn = new int[3];
                    for (int i = 0; i < 3; i++) {
                        seed = seed.multiply(times).add(plus).mod(rest);
                        drawn[i] = seed.shiftRight(16).intValue() % below[i];
                    }
                    Check.due("FROM by seed " + first, x.straying(stray, 4), 6 * drawn[0]);
                    Check.due("TO by seed " + first, x.straying(stray, 0), drawn[1]);
                    Check.due("urgent by seed " + first, x.straying(stray, 1), drawn[2]);
                }
            }
        }
    }

    private static void promise26BySeedAlone() {
        Check.sentence("26: So many STRAYS come by a SEED (not by that of the call ahead)");
        for (int seed = 0; seed < 40; seed++) {
            SlotChip x = Check.chip("3x3:4");
            x.storm(4, seed);
            x.storm(4, 1000 * seed + 7);
            x.storm(4, seed);
            for (int stray = 0; stray < 4; stray++) {
                for (int what : new int[] {0, 1, 4}) {
                    Check.due("seed " + seed + " again", x.straying(8 + stray, what), x.straying(stray, what));
                }
            }
        }
    }

    private static void promise26Several() {
        Check.sentence("26: STATE: no CHIP; OUTSIDE");
        SlotChip none = new SlotChip();
        Check.state(none, "no chip", () -> none.storm(1, 0));
        Check.state(none, "no chip, many 0", () -> none.storm(0, 0));
        Check.state(none, "no chip, many 13, seed -1", () -> none.storm(13, -1));
        SlotChip x = withTwelve();
        Check.outside(x, "many 13 with twelve under way", () -> x.storm(13, 0));
        Check.outside(x, "seed -1 with twelve under way", () -> x.storm(1, -1));
        long before = x.digest();
        Check.due("twelve under way", x.storm(1, 0), 0);
        Check.due("digest()", x.digest(), before);
    }
}
