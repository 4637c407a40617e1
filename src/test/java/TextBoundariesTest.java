/** The boundary cases of promises 1 to 5, and of the text of a CHIP, sentence by sentence. */
public final class TextBoundariesTest {
    private static final String ALL_OF_2X2 = "-0e-0s-1s-1w-2n-2e-3n-3w";

    public static void main(String[] args) {
        promise1NoChip();
        promise2Code();
        promise2HowManyThePageHas();
        promise2Full();
        promise2Several();
        promise3Blank();
        promise4EachPlaceOfTheHead();
        promise4Slots();
        promise4BrokenRouter();
        promise4BrokenPort();
        promise4NoneTwice();
        promise4FirstOfSeveral();
        promise4NoFault();
        promise4ChangesNothing();
        promise5Sizes();
        promise5Slots();
        promise5BrokenLinks();
        promise5ThePageIsEmptyThen();
        promise5ItIsNone();
        promise5Refused();
        promise5WithAllThatWas();
        Check.end("TextBoundariesTest");
    }

    private static SlotChip page(String text) {
        SlotChip x = new SlotChip();
        Check.write(x, text);
        return x;
    }

    private static void promise1NoChip() {
        Check.sentence("1: No CHIP.");
        SlotChip x = new SlotChip();
        for (int what = 0; what <= 7; what++) {
            int number = what;
            Check.state(x, "about(" + what + ")", () -> x.about(number));
        }
        for (int link = 0; link < 54; link++) {
            Check.due("link", x.link(link, 0), -101);
            Check.due("slot", x.slot(link, 0), -101);
            Check.due("cut", x.cut(link, true), -101);
            Check.due("cut", x.cut(link, false), -101);
        }
        Check.state(x, "open", () -> x.open(0, 0, 1, 1, 1));
        Check.state(x, "stray", () -> x.stray(0, 0, false));
        Check.state(x, "run", () -> x.run(1));
        Check.state(x, "storm", () -> x.storm(1, 0));
        Check.state(x, "chip", x::chip);
        noCircuitsAndNoStrays(x);
        Check.row("count", x::count, 0, 0, 0, 0, 0, 0, 0, -102);
        Check.due("blank()", x.blank(), 0);
        Check.due("fault()", x.fault(), 0);
        Check.due("fastest()", x.fastest(), -1);
        Check.due("faster()", x.faster(), -2);
    }

    private static void noCircuitsAndNoStrays(SlotChip x) {
        for (int number = 0; number < 8; number++) {
            int circuit = number;
            Check.unknown(x, "circuit", () -> x.circuit(circuit, 0));
            Check.unknown(x, "as", () -> x.as(circuit, 0));
            Check.unknown(x, "route", () -> x.route(circuit, 0));
            Check.unknown(x, "start", () -> x.start(circuit, 0));
            Check.unknown(x, "pair", () -> x.pair(circuit, 7 - circuit));
            Check.unknown(x, "move", () -> x.move(circuit));
            Check.unknown(x, "close", () -> x.close(circuit));
            Check.unknown(x, "feed", () -> x.feed(circuit, 1));
            Check.unknown(x, "take", () -> x.take(circuit, 1));
        }
        Check.unknown(x, "straying", () -> x.straying(0, 0));
        for (int what = 0; what <= 2; what++) {
            Check.due("arrived, urgent", x.arrived(true, what), 0);
            Check.due("arrived", x.arrived(false, what), 0);
        }
    }

    private static void promise2Code() {
        Check.sentence("2: OUTSIDE: code (32 to 126)");
        for (int code = -140; code <= 300; code++) {
            SlotChip x = new SlotChip();
            boolean allowed = code >= 32 && code <= 126;
            Check.due("letter(" + code + ")", x.letter(code), allowed ? 1 : -102);
            Check.due("count(5)", x.count(5), allowed ? 1 : 0);
        }
        SlotChip x = page("2x");
        for (int code : Check.around(32, 126)) {
            Check.outside(x, "letter(" + code + ")", () -> x.letter(code));
        }
        Check.due("a code is not cut to a byte", x.letter(256 + '2'), -102);
        Check.due("nor to a char", x.letter(65536 + '2'), -102);
    }

    private static void promise2HowManyThePageHas() {
        Check.sentence("2: A letter comes behind THE PAGE: how many THE PAGE has");
        SlotChip x = new SlotChip();
        String text = "2x2:10" + ALL_OF_2X2;
        for (int many = 1; many <= 30; many++) {
            Check.due("letter " + many, x.letter(text.charAt(many - 1)), many);
            Check.due("each is behind those ahead of it", x.fault(), many);
        }
    }

    private static void promise2Full() {
        Check.sentence("2: FULL: above 30");
        SlotChip x = page("2x2:10" + ALL_OF_2X2.substring(0, 23));
        Check.due("the last letter", x.letter('w'), 30);
        Check.full(x, "one more", () -> x.letter('-'));
        Check.full(x, "one more, again", () -> x.letter(32));
        Check.full(x, "one more, again", () -> x.letter(126));
        Check.due("nothing came", x.fault(), 30);
        Check.due("blank()", x.blank(), 30);
        Check.due("a letter behind blank()", x.letter('2'), 1);
        SlotChip y = page("2x2:10" + ALL_OF_2X2);
        Check.due("chip()", y.chip(), 4);
        Check.due("a letter behind chip()", y.letter('2'), 1);
    }

    private static void promise2Several() {
        Check.sentence("2: OUTSIDE ahead of FULL");
        SlotChip x = page("2x2:10" + ALL_OF_2X2);
        for (int code : Check.around(32, 126)) {
            Check.outside(x, "letter(" + code + ") on a full page", () -> x.letter(code));
        }
    }

    private static void promise3Blank() {
        Check.sentence("3: THE PAGE is empty: how many letters it had");
        for (int many = 0; many <= 30; many++) {
            SlotChip x = page("x".repeat(many));
            Check.due("blank() of " + many, x.blank(), many);
            Check.due("count(5)", x.count(5), 0);
            Check.due("blank() again", x.blank(), 0);
            Check.due("fault()", x.fault(), 0);
        }
        SlotChip refused = page("ab");
        refused.letter(31);
        refused.letter(127);
        Check.due("refused letters are not on it", refused.blank(), 2);
        SlotChip full = page("y".repeat(40));
        Check.due("no more than 30", full.blank(), 30);
        SlotChip chip = Check.chip("3x2:5-0e");
        Check.write(chip, "2x2:4");
        Check.due("with a chip", chip.blank(), 5);
        Check.row("the chip stays", chip::about, 3, 2, 5, 26, 1, 0, 0, 0);
    }

    /** Behind a head that is no fault just these letters are none either. */
    private static void goesOn(String head, String allowed) {
        for (int code = 32; code <= 126; code++) {
            SlotChip x = page(head + (char) code);
            int want = head.length() + (allowed.indexOf(code) >= 0 ? 1 : 0);
            Check.due("fault() of \"" + head + (char) code + "\"", x.fault(), want);
        }
    }

    private static void promise4EachPlaceOfTheHead() {
        Check.sentence("1: the digit of W, \"x\", that of H, \":\" (W, H 2 or 3)");
        goesOn("", "23");
        for (String w : new String[] {"2", "3"}) {
            goesOn(w, "x");
            goesOn(w + "x", "23");
            goesOn(w + "x2", ":");
            goesOn(w + "x3", ":");
        }
    }

    private static void promise4Slots() {
        Check.sentence("1: S (\"4\" to \"9\", or \"10\")");
        for (int[] size : Sizes.ALL) {
            String head = size[0] + "x" + size[1] + ":";
            goesOn(head, "1456789");
            goesOn(head + "1", "0");
            for (int slots = 4; slots <= 10; slots++) {
                goesOn(head + slots, "-");
            }
        }
    }

    private static void promise4BrokenRouter() {
        Check.sentence("1: \"-\", the digit of its ROUTER");
        for (int[] size : Sizes.ALL) {
            String digits = "012345678".substring(0, Sizes.routers(size));
            goesOn(Sizes.text(size, 4) + "-", digits);
            goesOn(Sizes.text(size, 10) + "-", digits);
            goesOn(Sizes.text(size, 9) + "-0e-", digits);
        }
    }

    private static String portsOf(int[] size, int router) {
        StringBuilder ports = new StringBuilder();
        for (int port = 2; port <= 5; port++) {
            if (Sizes.end(size, 6 * router + port) != Sizes.MISSING) {
                ports.append("nesw".charAt(port - 2));
            }
        }
        return ports.toString();
    }

    private static void promise4BrokenPort() {
        Check.sentence("1: a letter for its PORT, \"n\", \"e\", \"s\", \"w\"; 2 to 5 only if that is there");
        for (int[] size : Sizes.ALL) {
            for (int router = 0; router < Sizes.routers(size); router++) {
                goesOn(Sizes.text(size, 8) + "-" + router, portsOf(size, router));
                goesOn(Sizes.text(size, 10) + "-" + router, portsOf(size, router));
            }
        }
    }

    private static void promise4NoneTwice() {
        Check.sentence("1: none twice");
        for (int[] size : Sizes.ALL) {
            for (int link = 0; link < 54; link++) {
                if (Sizes.isInner(size, link)) {
                    String text = Sizes.text(size, 6) + Sizes.name(link);
                    Check.due("fault() of it once", page(text).fault(), 8);
                    Check.due("fault() of it twice", page(text + Sizes.name(link)).fault(), 10);
                }
            }
        }
        goesOn("3x3:7-4e-4", "nsw");
        goesOn("3x3:7-4e-5w-4", "nsw");
        goesOn("3x3:7-4e-4n-4w-4", "s");
        goesOn("3x3:7-4e-4n-4w-4s-", "01235678");
        goesOn("3x3:7-0e-8n-0s-", "12345678");
        goesOn("2x2:5" + ALL_OF_2X2.substring(0, 21), "-");
        goesOn("2x2:5" + ALL_OF_2X2.substring(0, 21) + "-", "3");
        goesOn("2x2:5" + ALL_OF_2X2.substring(0, 21) + "-3", "w");
        goesOn("2x2:5" + ALL_OF_2X2, "");
    }

    private static void promise4FirstOfSeveral() {
        Check.sentence("4: the first letter that no CHIP has there, behind those ahead of it");
        Check.due("two faults", page("2y2;4").fault(), 1);
        Check.due("all are faults", page("zzzzz").fault(), 0);
        Check.due("what is behind the fault does not count", page("3x4:4").fault(), 2);
        Check.due("a fault in the last letter of a full page", page("2x2:10" + ALL_OF_2X2.substring(0, 23) + "n").fault(),
            29);
        Check.due("a router of a greater chip", page("2x2:4-4n").fault(), 6);
        Check.due("a router of such a chip", page("2x3:4-4n").fault(), 8);
    }

    private static void promise4NoFault() {
        Check.sentence("4: how many letters it has, if there is none");
        String text = "2x2:10" + ALL_OF_2X2;
        for (int many = 0; many <= 30; many++) {
            Check.due("fault() of the first " + many, page(text.substring(0, many)).fault(), many);
        }
    }

    private static void promise4ChangesNothing() {
        Check.sentence("4: fault() tells of THE PAGE, not of THE CHIP, and changes nothing");
        SlotChip x = Check.chip("2x2:4-0e");
        Check.write(x, "3x3:10-8n-0w");
        long before = x.digest();
        Check.due("fault()", x.fault(), 11);
        Check.due("fault() again", x.fault(), 11);
        Check.due("digest()", x.digest(), before);
        Check.row("about()", x::about, 2, 2, 4, 16, 1, 0, 0, 0);
        Check.row("the chip's links", link -> x.link(link, 0), 0, -1, -101, 1, 2, -101);
        Check.due("the chip's broken link", x.link(3, 1), 1);
    }

    private static void promise5Sizes() {
        Check.sentence("1: W times H ROUTERS (W, H 2 or 3)");
        for (int w = 0; w <= 9; w++) {
            for (int h = 0; h <= 9; h++) {
                boolean allowed = (w == 2 || w == 3) && (h == 2 || h == 3);
                Check.due("chip() of " + w + "x" + h, page(w + "x" + h + ":4").chip(), allowed ? w * h : -103);
            }
        }
    }

    private static void promise5Slots() {
        Check.sentence("1: S SLOTS (4 to 10)");
        for (int[] size : Sizes.ALL) {
            for (int slots = 0; slots <= 101; slots++) {
                SlotChip x = page(Sizes.text(size, slots));
                boolean allowed = slots >= 4 && slots <= 10;
                Check.due("chip() of " + Sizes.text(size, slots), x.chip(), allowed ? Sizes.routers(size) : -103);
                Check.due("about(2)", x.about(2), allowed ? slots : -103);
            }
        }
        for (String text : new String[] {"2x2:04", "2x2:010", "2x2: 4", "2x2:4 ", "2x2:-4", "2x2:"}) {
            Check.due("chip() of \"" + text + "\"", page(text).chip(), -103);
        }
    }

    private static void promise5BrokenLinks() {
        Check.sentence("1: for each BROKEN LINK \"-\", ..; none twice. At first there is none.");
        for (int[] size : Sizes.ALL) {
            for (int link = 0; link < 54; link++) {
                if (Sizes.isInner(size, link)) {
                    onlyBroken(Sizes.text(size, 10) + Sizes.name(link), link);
                    Check.due("twice", page(Sizes.text(size, 10) + Sizes.name(link) + Sizes.name(link)).chip(), -103);
                }
            }
            SlotChip none = Check.chip(Sizes.text(size, 4));
            Check.due("none at first", none.about(4), 0);
        }
        SlotChip all = page("2x2:10" + ALL_OF_2X2);
        Check.due("all of them, on a full page", all.chip(), 4);
        Check.due("about(4)", all.about(4), 8);
        Check.row("links of 0", link -> all.link(link, 1), 0, 0, -101, 1, 1, -101);
    }

    private static void onlyBroken(String text, int broken) {
        SlotChip x = Check.chip(text);
        Check.due("about(4) of " + text, x.about(4), 1);
        for (int link = 0; link < 54; link++) {
            if (x.link(link, 0) != -101) {
                Check.due("link(" + link + ", 1) of " + text, x.link(link, 1), link == broken ? 1 : 0);
            }
        }
    }

    private static void promise5ThePageIsEmptyThen() {
        Check.sentence("5: THE PAGE is empty then");
        SlotChip x = page("2x2:4");
        x.chip();
        Check.due("count(5)", x.count(5), 0);
        Check.due("blank()", x.blank(), 0);
        Check.state(x, "chip() again", x::chip);
        Check.due("the next letter", x.letter('3'), 1);
        Check.due("fault()", x.fault(), 1);
    }

    private static void promise5ItIsNone() {
        Check.sentence("5: STATE: it is none");
        String text = "3x2:10-0e-5w";
        for (int many = 0; many <= text.length(); many++) {
            boolean whole = many == 6 || many == 9 || many == 12;
            Check.due("chip() of \"" + text.substring(0, many) + "\"", page(text.substring(0, many)).chip(), whole ? 6 : -103);
        }
        String nine = "3x2:9-0e-5w";
        for (int many = 0; many <= nine.length(); many++) {
            boolean whole = many == 5 || many == 8 || many == 11;
            Check.due("chip() of \"" + nine.substring(0, many) + "\"", page(nine.substring(0, many)).chip(), whole ? 6 : -103);
        }
        String full = "2x2:10" + ALL_OF_2X2;
        for (int place = 0; place < 30; place++) {
            String faulty = full.substring(0, place) + "?" + full.substring(place + 1);
            Check.due("chip() of \"" + faulty + "\"", page(faulty).chip(), -103);
        }
        Check.due("a letter too many", page("2x2:4" + ALL_OF_2X2 + "-").chip(), -103);
    }

    private static void promise5Refused() {
        Check.sentence("5: a refused chip() changes nothing");
        SlotChip x = Check.chip("3x3:5-4e");
        x.open(0, 0, 8, 2, 3);
        x.feed(0, 9);
        x.storm(5, 5);
        x.run(7);
        Check.state(x, "chip() of an empty page", x::chip);
        Check.write(x, "2x2:1");
        Check.state(x, "chip() of a page that could go on", x::chip);
        Check.due("the page stays", x.count(5), 5);
        Check.due("and goes on", x.letter('0'), 6);
        Check.due("count(6)", x.count(6), 1);
        Check.due("chip() then", x.chip(), 4);
        Check.due("count(6) then", x.count(6), 2);
    }

    private static void promise5WithAllThatWas() {
        Check.sentence("5: another one is gone, with all that was; TIME is 0");
        SlotChip x = Check.chip("3x3:10-4e-4s-8n");
        for (int circuit = 0; circuit < 8; circuit++) {
            x.open(circuit % 5, circuit, circuit + 1, 1, 15);
            x.feed(circuit, 99);
        }
        x.storm(12, 3);
        x.run(9);
        Check.read(x, "3x3:10");
        SlotChip fresh = Check.chip("3x3:4");
        Check.read(fresh, "3x3:10");
        Check.due("as a new one that was read second", x.digest(), fresh.digest());
        for (int link = 0; link < 54; link++) {
            for (int slot = 0; slot < 10 && link % 6 == 0; slot += 9) {
                Check.due("no slot is had", x.slot(link, slot), -1);
            }
        }
        for (int i = 0; i < 3; i++) {
            x.run(10);
            fresh.run(10);
            Check.due("nothing is under way", x.digest(), fresh.digest());
        }
        Check.due("the first number again", x.open(0, 0, 1, 4, 1), 0);
        Check.row("the first starts again", place -> x.start(0, place), 0, 1, 2, 3);
        Check.due("the first stray again", x.stray(0, 0, true), 1);
    }
}
