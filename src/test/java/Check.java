import java.util.function.IntSupplier;

/** What the tests of the promises share: answers held against what is due, and chips written letter by letter. */
final class Check {
    /** Numbers that no call has a use for. */
    static final int[] EXTREMES = {Integer.MIN_VALUE, Integer.MIN_VALUE + 1, -1000, 1000, Integer.MAX_VALUE};

    private static int asked;
    private static int wrong;
    private static int sentences;
    private static String sentence = "";

    private Check() {
    }

    /** The words of the document that the answers behind this are held against. */
    static void sentence(String words) {
        sentence = "[" + words + "] ";
        sentences++;
    }

    static void due(String what, long got, long want) {
        asked++;
        if (got != want) {
            wrong++;
            System.out.println(sentence + what + " answered " + got + ", due is " + want);
        }
    }

    /** Several answers of one call, for 0 and the numbers behind it. */
    static void row(String what, java.util.function.IntUnaryOperator call, int... wants) {
        for (int i = 0; i < wants.length; i++) {
            due(what + " for " + i, call.applyAsInt(i), wants[i]);
        }
    }

    /** A refused call answers so, and changes nothing. */
    static void refused(SlotChip x, String what, int want, IntSupplier call) {
        long before = x.digest();
        due(what, call.getAsInt(), want);
        due("digest() behind the refused " + what, x.digest(), before);
    }

    static void unknown(SlotChip x, String what, IntSupplier call) {
        refused(x, what, -101, call);
    }

    static void outside(SlotChip x, String what, IntSupplier call) {
        refused(x, what, -102, call);
    }

    static void state(SlotChip x, String what, IntSupplier call) {
        refused(x, what, -103, call);
    }

    static void full(SlotChip x, String what, IntSupplier call) {
        refused(x, what, -104, call);
    }

    static void write(SlotChip x, String text) {
        for (int i = 0; i < text.length(); i++) {
            x.letter(text.charAt(i));
        }
    }

    /** The numbers just outside of what is allowed, and those far outside. */
    static int[] around(int least, int most) {
        int[] all = java.util.Arrays.copyOf(EXTREMES, EXTREMES.length + 2);
        all[EXTREMES.length] = least - 1;
        all[EXTREMES.length + 1] = most + 1;
        return all;
    }

    static int read(SlotChip x, String text) {
        x.blank();
        write(x, text);
        return x.chip();
    }

    static SlotChip chip(String text) {
        SlotChip x = new SlotChip();
        if (read(x, text) < 0) {
            due("chip() of " + text, -103, 0);
        }
        return x;
    }

    static void end(String test) {
        String by = sentences == 0 ? "" : " by " + sentences + " sentences";
        System.out.println(test + ": " + asked + " answers" + by + ", " + wrong + " of them wrong");
        if (wrong != 0 || asked == 0) {
            System.exit(1);
        }
    }
}
