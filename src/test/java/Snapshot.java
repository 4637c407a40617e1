import java.util.ArrayList;
import java.util.LinkedHashMap;
import java.util.List;
import java.util.Map;
import java.util.function.Supplier;
import java.util.function.ToLongFunction;

/** All that an object can be asked, by name. An object has 512 calls, so each part is asked of one made anew. */
final class Snapshot {
    private static final int CALLS_OF_A_PART = 350;
    private static final List<String> NAMES = new ArrayList<>();
    private static final List<ToLongFunction<SlotChip>> CALLS = new ArrayList<>();

    static {
        gatherLinks();
        gatherCircuits();
        gatherStrays();
        for (int what = 0; what <= 7; what++) {
            int its = what;
            add("about " + what, x -> x.about(its));
            if (what < 7) {
                add("count " + what, x -> x.count(its));
            }
        }
        add("fault", SlotChip::fault);
        add("fastest", SlotChip::fastest);
        add("faster", SlotChip::faster);
    }

    private Snapshot() {
    }

    static Map<String, Long> of(Supplier<SlotChip> maker) {
        Map<String, Long> all = new LinkedHashMap<>();
        SlotChip x = null;
        for (int i = 0; i < CALLS.size(); i++) {
            x = i % CALLS_OF_A_PART == 0 ? maker.get() : x;
            all.put(NAMES.get(i), CALLS.get(i).applyAsLong(x));
        }
        return all;
    }

    /** What an object tells of itself ahead of all questions, and behind a part of them. */
    static boolean changesNothing(Supplier<SlotChip> maker) {
        boolean same = true;
        SlotChip x = null;
        for (int i = 0; i < CALLS.size(); i++) {
            x = i % CALLS_OF_A_PART == 0 ? maker.get() : x;
            CALLS.get(i).applyAsLong(x);
            boolean isLast = i % CALLS_OF_A_PART == CALLS_OF_A_PART - 1 || i == CALLS.size() - 1;
            same &= !isLast || x.digest() == maker.get().digest();
        }
        return same;
    }

    private static void add(String name, ToLongFunction<SlotChip> call) {
        NAMES.add(name);
        CALLS.add(call);
    }

    private static void gatherLinks() {
        for (int link = 0; link < 54; link++) {
            for (int number = 0; number < 10; number++) {
                int its = link;
                int place = number;
                add("slot " + link + " " + number, x -> x.slot(its, place));
                if (number < 4) {
                    add("link " + link + " " + number, x -> x.link(its, place));
                }
            }
        }
    }

    private static void gatherCircuits() {
        for (int circuit = 0; circuit < 8; circuit++) {
            for (int number = 0; number < 15; number++) {
                int its = circuit;
                int place = number;
                add("circuit " + circuit + " " + number, x -> x.circuit(its, place));
                if (number < 8) {
                    add("route " + circuit + " " + number, x -> x.route(its, place));
                }
                if (number < 5) {
                    add("start " + circuit + " " + number, x -> x.start(its, place));
                    add("as " + circuit + " " + number, x -> x.as(its, place));
                }
            }
        }
    }

    private static void gatherStrays() {
        for (int number = 0; number < 12; number++) {
            for (int what = 0; what < 5; what++) {
                int its = number;
                int place = what;
                add("straying " + number + " " + what, x -> x.straying(its, place));
            }
        }
        for (int what = 0; what < 3; what++) {
            int its = what;
            add("arrived true " + what, x -> x.arrived(true, its));
            add("arrived false " + what, x -> x.arrived(false, its));
        }
    }
}
