/** Promises 21 to 24 and 26: stray, straying, arrived, faster, storm. */
public final class StrayPromisesTest {
    public static void main(String[] args) {
        promise21Stray();
        promise22Straying();
        promise22Links();
        promise22TheOrder();
        promise22LettersGoFirst();
        promise22SlotsOfSolo();
        promise22OneLinkACycle();
        promise23Arrived();
        promise24Faster();
        promise26Storm();
        promise26StormRefused();
        Check.end("StrayPromisesTest");
    }

    private static void promise21Stray() {
        SlotChip none = new SlotChip();
        Check.state(none, "stray without a chip", () -> none.stray(9, 9, true));
        SlotChip x = Check.chip("3x2:4");
        for (int router : new int[] {-1, 6, 9, Integer.MAX_VALUE, Integer.MIN_VALUE}) {
            Check.unknown(x, "stray from " + router, () -> x.stray(router, 0, true));
            Check.unknown(x, "stray to " + router, () -> x.stray(0, router, false));
        }
        for (int many = 1; many <= 12; many++) {
            Check.due("stray", x.stray(many % 6, 5, many % 3 == 0), many);
        }
        Check.full(x, "a thirteenth stray", () -> x.stray(0, 0, true));
        Check.unknown(x, "a thirteenth stray from nowhere", () -> x.stray(6, 0, true));
        x.run(40);
        Check.due("a stray to where it is", x.stray(5, 5, false), 1);
    }

    private static void straying(String when, SlotChip x, int stray, int... wants) {
        Check.row(when + ", straying " + stray, what -> x.straying(stray, what), wants);
    }

    private static void promise22Straying() {
        SlotChip x = Check.chip("2x2:4");
        x.run(7);
        x.stray(0, 3, false);
        straying("at first", x, 0, 3, 0, -1, 0, 0);
        x.run(1);
        x.stray(1, 0, true);
        straying("a cycle later", x, 0, 3, 0, 0, 1, 3);
        straying("a second one", x, 1, 0, 1, -1, 0, 6);
        x.run(1);
        straying("then", x, 0, 3, 0, 1, 2, 10);
        straying("then", x, 1, 0, 1, 1, 1, 11);
        x.run(1);
        straying("in the router to which it goes", x, 0, 3, 0, 3, 3, 19);
        Check.due("one goes out", x.run(1), 2);
        for (int stray : new int[] {-1, 0, 12, Integer.MAX_VALUE, Integer.MIN_VALUE}) {
            Check.unknown(x, "straying(" + stray + ", 0)", () -> x.straying(stray, 0));
            Check.unknown(x, "straying(" + stray + ", 5)", () -> x.straying(stray, 5));
        }
        x.stray(0, 0, true);
        for (int what : new int[] {-1, 5, Integer.MAX_VALUE, Integer.MIN_VALUE}) {
            Check.outside(x, "straying(0, " + what + ")", () -> x.straying(0, what));
        }
    }

    private static void links(int from, int to, int... wants) {
        SlotChip x = Check.chip("3x3:4");
        x.stray(from, to, false);
        for (int want : wants) {
            Check.due("a stray from " + from + " to " + to, x.straying(0, 4), want);
            Check.due("on no link ahead of that", x.link(want, 3), 0);
            Check.due("it goes out by the last one", x.run(1), want == wants[wants.length - 1] ? 1 : 0);
            Check.due("on that link once", x.link(want, 3), 1);
        }
        Check.due("its delay", x.arrived(false, 1), wants.length);
    }

    private static void promise22Links() {
        links(0, 8, 0, 3, 9, 16, 34, 49);
        links(8, 0, 48, 53, 47, 38, 20, 1);
        links(2, 6, 12, 17, 11, 4, 22, 37);
        links(6, 2, 36, 39, 45, 50, 32, 13);
        links(4, 4, 24, 25);
        links(1, 7, 6, 10, 28, 43);
        links(5, 3, 30, 35, 29, 19);
    }

    private static void promise22TheOrder() {
        SlotChip x = Check.chip("2x2:4");
        x.stray(0, 0, false);
        x.stray(0, 1, false);
        x.stray(0, 2, true);
        x.stray(0, 3, true);
        x.stray(1, 1, false);
        x.run(1);
        Check.row("the first urgent one goes, and one at another router", place -> x.straying(place, 2), -1, -1, 0, -1,
            1);
        Check.due("the one at another router goes out", x.run(1), 1);
        Check.row("the second urgent one", place -> x.straying(place, 2), -1, -1, 2, 0, -101);
        Check.due("the first urgent one goes out", x.run(1), 1);
        Check.row("then the one that came first", place -> x.straying(place, 0), 0, 1, 3);
        Check.row("then the one that came first", place -> x.straying(place, 2), 0, -1, 1, -101);
        x.stray(0, 0, true);
        x.run(1);
        Check.row("an urgent one that came last is ahead", place -> x.straying(place, 2), -1, 3, 0);
        Check.row("the order of those left", place -> x.straying(place, 0), 1, 3, 0);
    }

    private static void promise22LettersGoFirst() {
        SlotChip x = Check.chip("2x2:4");
        x.open(0, 0, 1, 1, 1);
        x.feed(0, 1);
        x.stray(0, 1, true);
        x.run(1);
        Check.due("IN is the letter's in this cycle", x.straying(0, 2), -1);
        Check.due("IN was used once", x.link(0, 3), 1);
        x.run(1);
        Check.due("then it is the stray's", x.straying(0, 2), 0);
        x.run(2);
        Check.due("it goes behind the letter", x.arrived(true, 1), 4);
        x.feed(0, 1);
        x.stray(0, 1, true);
        x.run(1);
        Check.due("without credits no letter leaves, and its slot is free", x.straying(0, 2), 0);
        SlotChip y = Check.chip("2x2:4");
        y.open(0, 2, 1, 1, 1);
        y.feed(0, 1);
        y.run(1);
        y.stray(0, 1, true);
        y.run(1);
        Check.row("a stray ahead of its link", what -> y.straying(0, what), 1, 1, 0, 1, 3);
        y.run(1);
        Check.due("a letter that left two cycles ago is on that link", y.straying(0, 2), 0);
        Check.due("that link was used once", y.link(3, 3), 1);
        y.run(1);
        Check.due("then it goes on", y.straying(0, 2), 1);
        Check.due("and out", y.run(1), 1);
    }

    private static void promise22SlotsOfSolo() {
        SlotChip x = Check.chip("2x2:4");
        x.open(4, 0, 1, 4, 1);
        x.stray(0, 2, true);
        x.stray(2, 1, true);
        Check.due("all slots of a SOLO one", x.run(40), 0);
        Check.row("neither IN of 0 nor the OUT of 1", stray -> x.straying(stray, 2), -1, 1);
        Check.row("the second one had no SOLO link but OUT", what -> x.straying(1, what), 1, 1, 1, 40, 7);
    }

    private static void promise22OneLinkACycle() {
        SlotChip x = Check.chip("3x3:4");
        x.stray(0, 2, false);
        x.run(1);
        x.stray(0, 2, false);
        x.run(1);
        Check.row("they follow one another", stray -> x.straying(stray, 2), 1, 0);
        x.run(1);
        Check.row("they follow one another", stray -> x.straying(stray, 2), 2, 1);
        Check.due("out", x.run(1), 1);
        Check.due("out", x.run(1), 1);
        Check.due("DELAYS", x.arrived(false, 1), 8);
    }

    private static void promise23Arrived() {
        SlotChip x = Check.chip("2x2:4");
        x.stray(0, 0, true);
        x.stray(0, 0, true);
        x.stray(3, 0, false);
        Check.due("run(1)", x.run(1), 0);
        Check.due("run(1)", x.run(1), 1);
        Check.row("arrived urgent", what -> x.arrived(true, what), 1, 2, 2);
        Check.due("run(10)", x.run(10), 2);
        Check.row("arrived urgent", what -> x.arrived(true, what), 2, 5, 3);
        Check.row("arrived", what -> x.arrived(false, what), 1, 4, 4);
        x.stray(1, 1, false);
        Check.due("run(2)", x.run(2), 1);
        Check.row("arrived", what -> x.arrived(false, what), 2, 6, 4);
        for (int what : new int[] {-1, 3, Integer.MAX_VALUE, Integer.MIN_VALUE}) {
            Check.outside(x, "arrived(true, " + what + ")", () -> x.arrived(true, what));
            Check.outside(x, "arrived(false, " + what + ")", () -> x.arrived(false, what));
        }
        SlotChip none = new SlotChip();
        Check.outside(none, "arrived(true, 3) without a chip", () -> none.arrived(true, 3));
    }

    private static void promise24Faster() {
        SlotChip x = Check.chip("2x2:4");
        Check.due("faster() of none", x.faster(), -2);
        x.stray(0, 0, true);
        x.stray(0, 0, true);
        x.run(5);
        Check.due("faster() without others", x.faster(), -2);
        x.stray(3, 3, false);
        x.run(5);
        Check.due("2.5 is more than 2", x.faster(), -1);
        x.stray(3, 3, false);
        x.stray(3, 3, false);
        x.run(5);
        Check.due("2.5 is more than 2.33..", x.faster(), -1);
        x.stray(3, 2, false);
        x.run(5);
        Check.due("2.5 is 2.5", x.faster(), 0);
        x.stray(3, 2, false);
        x.run(5);
        Check.due("2.5 is less than 2.6", x.faster(), 1);
        Check.read(x, "2x2:4");
        Check.due("faster() of a new chip", x.faster(), -2);
        x.stray(3, 3, false);
        x.run(5);
        Check.due("faster() without urgent ones", x.faster(), -2);
    }

    private static void drawn(SlotChip x, int first, int[]... wants) {
        for (int i = 0; i < wants.length; i++) {
            int place = first + i;
            Check.due("FROM of " + place, x.straying(place, 4), 6 * wants[i][0]);
            Check.due("TO of " + place, x.straying(place, 0), wants[i][1]);
            Check.due("urgent " + place, x.straying(place, 1), wants[i][2]);
        }
    }

    private static void promise26Storm() {
        SlotChip x = Check.chip("3x3:4");
        Check.due("storm(4, 0)", x.storm(4, 0), 4);
        drawn(x, 0, new int[] {0, 3, 0}, new int[] {4, 6, 1}, new int[] {7, 4, 0}, new int[] {4, 3, 0});
        Check.due("the same again, behind the others", x.storm(1, 0), 1);
        drawn(x, 4, new int[] {0, 3, 0});
        Check.due("up to twelve", x.storm(12, 0), 7);
        drawn(x, 5, new int[] {0, 3, 0}, new int[] {4, 6, 1}, new int[] {7, 4, 0}, new int[] {4, 3, 0});
        long before = x.digest();
        Check.due("no room", x.storm(12, 0), 0);
        Check.due("no room: nothing came", x.digest(), before);
        SlotChip y = Check.chip("2x3:4");
        Check.due("storm with the greatest seed", y.storm(4, Integer.MAX_VALUE), 4);
        drawn(y, 0, new int[] {5, 5, 0}, new int[] {0, 1, 0}, new int[] {2, 5, 0}, new int[] {2, 5, 1});
        SlotChip z = Check.chip("2x2:4");
        Check.due("storm(12, 7)", z.storm(12, 7), 12);
        drawn(z, 0, new int[] {0, 2, 0}, new int[] {2, 3, 1}, new int[] {2, 2, 1}, new int[] {1, 1, 1},
            new int[] {2, 2, 1}, new int[] {2, 1, 0}, new int[] {2, 0, 0}, new int[] {3, 3, 0}, new int[] {1, 0, 1},
            new int[] {1, 2, 0}, new int[] {1, 2, 0}, new int[] {2, 0, 1});
    }

    private static void promise26StormRefused() {
        SlotChip none = new SlotChip();
        Check.state(none, "storm without a chip", () -> none.storm(0, -1));
        SlotChip x = Check.chip("2x2:4");
        for (int many : new int[] {-1, 0, 13, Integer.MAX_VALUE, Integer.MIN_VALUE}) {
            Check.outside(x, "storm(" + many + ", 1)", () -> x.storm(many, 1));
        }
        Check.outside(x, "storm(1, -1)", () -> x.storm(1, -1));
        Check.outside(x, "storm(1, MIN)", () -> x.storm(1, Integer.MIN_VALUE));
        Check.due("storm(1, 0)", x.storm(1, 0), 1);
    }
}
