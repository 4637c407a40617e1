import java.util.ArrayList;
import java.util.Arrays;
import java.util.HashSet;
import java.util.List;
import java.util.Set;
import java.util.TreeSet;

/**
 * The document once more, in its plainest form and with nothing of the program's own ways: who has a slot is asked of
 * all circuits each time, ways are all listed and sorted, letters carry the cycle in which they left. The random runs
 * hold the program against it.
 */
final class Model {
    static final int NONE = -1, UNKNOWN = -101, OUTSIDE = -102, STATE = -103, FULL = -104;

    static final class Route {
        final List<Integer> links = new ArrayList<>();
        final TreeSet<Integer> starts = new TreeSet<>();
    }

    static final class Letter {
        int left;
        int goods;
        int told;
    }

    static final class Circuit {
        int kind, from, to, n, window, queue, credits, come, owed, done, opened;
        int back = NONE;
        Route route;
        final List<Letter> letters = new ArrayList<>();
    }

    static final class Stray {
        int from, to, came;
        int at = NONE;
        boolean urgent;
    }

    private final StringBuilder page = new StringBuilder();
    private int w, h, s, time, reads;
    private boolean there;
    private final Set<Integer> broken = new TreeSet<>();
    private final Circuit[] circuits = new Circuit[8];
    private final List<Stray> strays = new ArrayList<>();
    private final List<Integer> urgentDelays = new ArrayList<>();
    private final List<Integer> otherDelays = new ArrayList<>();
    private int[] used = new int[54];

    // ---- texts

    int letter(int code) {
        if (code < 32 || code > 126) {
            return OUTSIDE;
        }
        if (page.length() + 1 > 30) {
            return FULL;
        }
        page.append((char) code);
        return page.length();
    }

    int blank() {
        int had = page.length();
        page.setLength(0);
        return had;
    }

    int fault() {
        int place = 0;
        while (place < page.length() && canBegin(page.substring(0, place + 1))) {
            place++;
        }
        return place;
    }

    /** Whether some chip's text begins so: tried out, by what could follow. */
    private static boolean canBegin(String text) {
        for (String size : new String[] {"2x2:", "2x3:", "3x2:", "3x3:"}) {
            if (size.startsWith(text)) {
                return true;
            }
            for (int slots = 4; slots <= 10; slots++) {
                String head = size + slots;
                if (head.startsWith(text)) {
                    return true;
                }
                if (text.startsWith(head) && canEndWithBreaks(size, text.substring(head.length()))) {
                    return true;
                }
            }
        }
        return false;
    }

    private static boolean canEndWithBreaks(String size, String rest) {
        List<String> names = names(size.charAt(0) - '0', size.charAt(2) - '0');
        String left = rest;
        while (left.length() >= 3) {
            if (!names.remove(left.substring(0, 3))) {
                return false;
            }
            left = left.substring(3);
        }
        for (String name : names) {
            if (name.startsWith(left)) {
                return true;
            }
        }
        return left.isEmpty();
    }

    /** How a text names each link that can be broken. */
    static List<String> names(int w, int h) {
        List<String> all = new ArrayList<>();
        for (int y = 0; y < h; y++) {
            for (int x = 0; x < w; x++) {
                String router = "-" + (w * y + x);
                if (y > 0) {
                    all.add(router + "n");
                }
                if (x < w - 1) {
                    all.add(router + "e");
                }
                if (y < h - 1) {
                    all.add(router + "s");
                }
                if (x > 0) {
                    all.add(router + "w");
                }
            }
        }
        return all;
    }

    int chip() {
        String text = page.toString();
        if (!text.matches("[23]x[23]:([4-9]|10)(-[0-8][nesw])*") || fault() != text.length()) {
            return STATE;
        }
        w = text.charAt(0) - '0';
        h = text.charAt(2) - '0';
        String[] parts = text.substring(4).split("-");
        s = Integer.parseInt(parts[0]);
        broken.clear();
        for (int i = 1; i < parts.length; i++) {
            broken.add(6 * (parts[i].charAt(0) - '0') + 2 + "nesw".indexOf(parts[i].charAt(1)));
        }
        there = true;
        time = 0;
        reads++;
        used = new int[54];
        for (int i = 0; i < 8; i++) {
            circuits[i] = null;
        }
        strays.clear();
        urgentDelays.clear();
        otherDelays.clear();
        page.setLength(0);
        return w * h;
    }

    // ---- the chip

    /** The router to which a link leads, NONE for OUT, null for no link. */
    private Integer end(int link) {
        if (!there || link < 0 || link >= 6 * w * h) {
            return null;
        }
        int router = link / 6;
        int x = router % w;
        int y = router / w;
        switch (link % 6) {
            case 0: return router;
            case 1: return NONE;
            case 2: y--; break;
            case 3: x++; break;
            case 4: y++; break;
            default: x--; break;
        }
        return x < 0 || y < 0 || x >= w || y >= h ? null : Integer.valueOf(w * y + x);
    }

    /** Who has each slot of each link, asked of all circuits but one. */
    private int[][] owners(int without) {
        int[][] table = new int[54][10];
        for (int[] row : table) {
            Arrays.fill(row, NONE);
        }
        for (int c = 0; c < 8; c++) {
            for (int k = 0; circuits[c] != null && c != without && k < circuits[c].route.links.size(); k++) {
                for (int start : circuits[c].route.starts) {
                    int[] row = table[circuits[c].route.links.get(k)];
                    if (row[(start + k) % s] != NONE) {
                        throw new IllegalStateException("two circuits have a slot");
                    }
                    row[(start + k) % s] = c;
                }
            }
        }
        return table;
    }

    private static int had(int[] row) {
        int sum = 0;
        for (int owner : row) {
            sum += owner == NONE ? 0 : 1;
        }
        return sum;
    }

    int about(int what) {
        if (what < 0 || what > 7) {
            return OUTSIDE;
        }
        if (!there) {
            return STATE;
        }
        int[][] owners = owners(NONE);
        int links = 0;
        int slotsHad = 0;
        int most = NONE;
        for (int link = 0; link < 54; link++) {
            if (end(link) != null) {
                links++;
                slotsHad += had(owners[link]);
                most = most == NONE || used[link] > used[most] ? link : most;
            }
        }
        return new int[] {w, h, s, links, broken.size(), slotsHad, time, most}[what];
    }

    int link(int link, int what) {
        if (end(link) == null) {
            return UNKNOWN;
        }
        if (what < 0 || what > 3) {
            return OUTSIDE;
        }
        return new int[] {end(link), broken.contains(link) ? 1 : 0, what == 2 ? had(owners(NONE)[link]) : 0,
            used[link]}[what];
    }

    int slot(int link, int slot) {
        return end(link) == null || slot < 0 || slot >= s ? UNKNOWN : owners(NONE)[link][slot];
    }

    int cut(int link, boolean isBroken) {
        if (end(link) == null || link % 6 < 2) {
            return UNKNOWN;
        }
        if (broken.contains(link) == isBroken || had(owners(NONE)[link]) != 0) {
            return STATE;
        }
        if (isBroken) {
            broken.add(link);
        } else {
            broken.remove(link);
        }
        return broken.size();
    }

    // ---- circuits

    private void ways(int at, int to, List<Integer> sofar, Set<Integer> passed, List<List<Integer>> all) {
        if (at == to) {
            all.add(new ArrayList<>(sofar));
            return;
        }
        for (int port = 2; port <= 5 && sofar.size() < 6; port++) {
            int link = 6 * at + port;
            Integer next = end(link);
            if (next != null && !broken.contains(link) && passed.add(next)) {
                sofar.add(link);
                ways(next, to, sofar, passed, all);
                sofar.remove(sofar.size() - 1);
                passed.remove(next);
            }
        }
    }

    private static int compareWays(List<Integer> one, List<Integer> other) {
        if (one.size() != other.size()) {
            return one.size() - other.size();
        }
        for (int i = 0; i < one.size(); i++) {
            if (one.get(i) % 6 != other.get(i) % 6) {
                return one.get(i) % 6 - other.get(i) % 6;
            }
        }
        return 0;
    }

    private Route search(int kind, int from, int to, int n, int without) {
        List<List<Integer>> all = new ArrayList<>();
        Set<Integer> passed = new HashSet<>();
        passed.add(from);
        ways(from, to, new ArrayList<>(), passed, all);
        all.sort(Model::compareWays);
        int[][] owners = owners(without);
        for (List<Integer> way : all) {
            if (kind != 2 && way.size() > all.get(0).size()) {
                return null;
            }
            Route route = new Route();
            route.links.add(6 * from);
            route.links.addAll(way);
            route.links.add(6 * to + 1);
            List<Integer> starts = choose(kind, n, freeStarts(route, owners));
            if (starts != null) {
                route.starts.addAll(starts);
                return route;
            }
        }
        return null;
    }

    private List<Integer> freeStarts(Route route, int[][] owners) {
        List<Integer> free = new ArrayList<>();
        for (int start = 0; start < s; start++) {
            boolean meets = false;
            for (int k = 0; k < route.links.size(); k++) {
                meets |= owners[route.links.get(k)][(start + k) % s] != NONE;
            }
            if (!meets) {
                free.add(start);
            }
        }
        return free;
    }

    private List<Integer> choose(int kind, int n, List<Integer> free) {
        if (kind == 3) {
            for (int first = 0; first < s; first++) {
                List<Integer> burst = new ArrayList<>();
                for (int i = 0; i < n; i++) {
                    burst.add((first + i) % s);
                }
                if (free.containsAll(burst)) {
                    return burst;
                }
            }
            return null;
        }
        List<List<Integer>> sets = new ArrayList<>();
        risingSets(free, n, 0, new ArrayList<>(), sets);
        List<Integer> best = null;
        for (List<Integer> set : sets) {
            if (best == null || (kind == 1 || kind == 2) && gap(set) < gap(best)) {
                best = set;
            }
        }
        return best;
    }

    /** All rising sets of n of the free starts, the one with the lesser start where they are unlike first. */
    private static void risingSets(List<Integer> free, int n, int next, List<Integer> sofar, List<List<Integer>> all) {
        if (sofar.size() == n) {
            all.add(new ArrayList<>(sofar));
            return;
        }
        for (int i = next; i < free.size(); i++) {
            sofar.add(free.get(i));
            risingSets(free, n, i + 1, sofar, all);
            sofar.remove(sofar.size() - 1);
        }
    }

    private int gap(List<Integer> rising) {
        int gap = rising.get(0) + s - rising.get(rising.size() - 1);
        for (int i = 1; i < rising.size(); i++) {
            gap = Math.max(gap, rising.get(i) - rising.get(i - 1));
        }
        return gap;
    }

    private boolean isRouter(int router) {
        return router >= 0 && router < w * h;
    }

    int open(int kind, int from, int to, int n, int window) {
        if (!there) {
            return STATE;
        }
        if (!isRouter(from) || !isRouter(to) || from == to) {
            return UNKNOWN;
        }
        if (kind < 0 || kind > 4 || n < 1 || n > 4 || window < 1 || window > 15) {
            return OUTSIDE;
        }
        int number = 0;
        while (number < 8 && circuits[number] != null) {
            number++;
        }
        if (number == 8) {
            return FULL;
        }
        Route route = search(kind, from, to, n, NONE);
        if (route == null) {
            return STATE;
        }
        Circuit c = new Circuit();
        c.kind = kind;
        c.from = from;
        c.to = to;
        c.n = n;
        c.window = window;
        c.credits = window;
        c.opened = time;
        c.route = route;
        circuits[number] = c;
        return number;
    }

    private Circuit get(int number) {
        return number < 0 || number > 7 ? null : circuits[number];
    }

    int as(int circuit, int kind) {
        if (get(circuit) == null) {
            return UNKNOWN;
        }
        if (kind < 0 || kind > 4) {
            return OUTSIDE;
        }
        int own = get(circuit).kind;
        boolean is = kind == 0 || kind == own || kind == 1 && own == 2;
        return is ? circuit : NONE;
    }

    int circuit(int circuit, int what) {
        Circuit c = get(circuit);
        if (c == null) {
            return UNKNOWN;
        }
        if (what < 0 || what > 14) {
            return OUTSIDE;
        }
        return new int[] {c.kind, c.from, c.to, c.n, c.window, c.route.links.size() - 2,
            gap(new ArrayList<>(c.route.starts)), c.back, c.queue, c.credits, c.come, c.owed, c.done,
            c.letters.size(), c.opened}[what];
    }

    int route(int circuit, int place) {
        Circuit c = get(circuit);
        return c == null || place < 0 || place >= c.route.links.size() ? UNKNOWN : c.route.links.get(place);
    }

    int start(int circuit, int place) {
        Circuit c = get(circuit);
        return c == null || place < 0 || place >= c.n ? UNKNOWN : new ArrayList<>(c.route.starts).get(place);
    }

    int pair(int one, int other) {
        Circuit a = get(one);
        Circuit b = get(other);
        if (a == null || b == null || a == b) {
            return UNKNOWN;
        }
        if (a.back != NONE || b.back != NONE || a.from != b.to || a.to != b.from) {
            return STATE;
        }
        a.back = other;
        b.back = one;
        return a.route.links.size() + b.route.links.size() - 4;
    }

    int move(int circuit) {
        Circuit c = get(circuit);
        if (c == null) {
            return UNKNOWN;
        }
        if (!c.letters.isEmpty()) {
            return STATE;
        }
        Route route = search(c.kind, c.from, c.to, c.n, circuit);
        if (route == null) {
            return STATE;
        }
        c.route = route;
        return route.links.size() - 2;
    }

    int close(int circuit) {
        Circuit c = get(circuit);
        if (c == null) {
            return UNKNOWN;
        }
        if (!c.letters.isEmpty() || c.back != NONE && !circuits[c.back].letters.isEmpty()) {
            return STATE;
        }
        if (c.back != NONE) {
            circuits[c.back].back = NONE;
        }
        circuits[circuit] = null;
        return c.queue;
    }

    int feed(int circuit, int many) {
        Circuit c = get(circuit);
        if (c == null) {
            return UNKNOWN;
        }
        if (many < 1 || many > 99) {
            return OUTSIDE;
        }
        if (c.queue + many > 99) {
            return FULL;
        }
        return c.queue += many;
    }

    int take(int circuit, int many) {
        Circuit c = get(circuit);
        if (c == null) {
            return UNKNOWN;
        }
        if (many < 1 || many > 99) {
            return OUTSIDE;
        }
        if (c.come < many) {
            return STATE;
        }
        c.owed += many;
        return c.come -= many;
    }

    private double speed(Circuit c) {
        return time == c.opened ? 0 : (double) c.done / (time - c.opened);
    }

    int fastest() {
        int best = NONE;
        for (int c = 0; c < 8; c++) {
            if (circuits[c] != null && (best == NONE || speed(circuits[c]) > speed(circuits[best]))) {
                best = c;
            }
        }
        return best;
    }

    // ---- strays

    int stray(int from, int to, boolean urgent) {
        if (!there) {
            return STATE;
        }
        if (!isRouter(from) || !isRouter(to)) {
            return UNKNOWN;
        }
        if (strays.size() == 12) {
            return FULL;
        }
        Stray stray = new Stray();
        stray.from = from;
        stray.to = to;
        stray.urgent = urgent;
        stray.came = time;
        strays.add(stray);
        return strays.size();
    }

    private int next(Stray stray) {
        if (stray.at == NONE) {
            return 6 * stray.from;
        }
        int dx = stray.to % w - stray.at % w;
        int dy = stray.to / w - stray.at / w;
        int port = dx > 0 ? 3 : dx < 0 ? 5 : dy < 0 ? 2 : dy > 0 ? 4 : 1;
        return 6 * stray.at + port;
    }

    int straying(int stray, int what) {
        if (stray < 0 || stray >= strays.size()) {
            return UNKNOWN;
        }
        if (what < 0 || what > 4) {
            return OUTSIDE;
        }
        Stray one = strays.get(stray);
        return new int[] {one.to, one.urgent ? 1 : 0, one.at, time - one.came, next(one)}[what];
    }

    int arrived(boolean urgent, int what) {
        if (what < 0 || what > 2) {
            return OUTSIDE;
        }
        List<Integer> delays = urgent ? urgentDelays : otherDelays;
        int sum = 0;
        int greatest = 0;
        for (int delay : delays) {
            sum += delay;
            greatest = Math.max(greatest, delay);
        }
        return new int[] {delays.size(), sum, greatest}[what];
    }

    int faster() {
        if (urgentDelays.isEmpty() || otherDelays.isEmpty()) {
            return -2;
        }
        double urgent = (double) arrived(true, 1) / urgentDelays.size();
        double other = (double) arrived(false, 1) / otherDelays.size();
        return Double.compare(other, urgent);
    }

    // ---- time

    int run(int cycles) {
        if (cycles < 1 || cycles > 40) {
            return OUTSIDE;
        }
        if (!there) {
            return STATE;
        }
        int came = 0;
        for (int i = 0; i < cycles; i++) {
            came += cycle();
        }
        return came;
    }

    private int cycle() {
        int[] ahead = new int[strays.size()];
        for (int i = 0; i < ahead.length; i++) {
            ahead[i] = next(strays.get(i));
        }
        leave();
        Set<Integer> busy = new HashSet<>();
        for (Circuit c : circuits) {
            for (int i = 0; c != null && i < c.letters.size(); i++) {
                int link = c.route.links.get(time - c.letters.get(i).left);
                if (!busy.add(link)) {
                    throw new IllegalStateException("two letters meet on link " + link);
                }
                used[link]++;
            }
        }
        int came = goStrays(ahead, busy);
        for (Circuit c : circuits) {
            came += c == null ? 0 : come(c);
        }
        time++;
        return came;
    }

    private void leave() {
        for (Circuit c : circuits) {
            if (c == null || !c.route.starts.contains(time % s)) {
                continue;
            }
            Circuit back = c.back == NONE ? null : circuits[c.back];
            boolean sends = c.queue != 0 && c.credits != 0;
            if (!sends && (back == null || back.owed == 0)) {
                continue;
            }
            Letter letter = new Letter();
            letter.left = time;
            if (sends) {
                letter.goods = 1;
                c.queue--;
                c.credits--;
            }
            while (back != null && back.owed > 0 && letter.told < 3) {
                back.owed--;
                letter.told++;
            }
            c.letters.add(letter);
        }
    }

    private int goStrays(int[] ahead, Set<Integer> busy) {
        List<Stray> gone = new ArrayList<>();
        int[][] owners = owners(NONE);
        for (int link = 0; link < 54; link++) {
            int first = NONE;
            for (int i = 0; i < ahead.length; i++) {
                if (ahead[i] == link && (first == NONE || strays.get(i).urgent && !strays.get(first).urgent)) {
                    first = i;
                }
            }
            int owner = owners[link][time % s];
            boolean solo = owner != NONE && circuits[owner].kind == 4;
            if (first == NONE || broken.contains(link) || busy.contains(link) || solo) {
                continue;
            }
            Stray stray = strays.get(first);
            used[link]++;
            stray.at = end(link);
            if (stray.at == NONE) {
                (stray.urgent ? urgentDelays : otherDelays).add(time + 1 - stray.came);
                gone.add(stray);
            }
        }
        strays.removeAll(gone);
        return gone.size();
    }

    private int come(Circuit c) {
        int came = 0;
        List<Letter> under = new ArrayList<>(c.letters);
        for (Letter letter : under) {
            if (time - letter.left == c.route.links.size() - 1) {
                c.letters.remove(letter);
                c.come += letter.goods;
                c.done += letter.goods;
                came += letter.goods;
                if (letter.told > 0) {
                    circuits[c.back].credits += letter.told;
                }
            }
        }
        return came;
    }

    int storm(int many, int seed) {
        if (!there) {
            return STATE;
        }
        if (many < 1 || many > 12 || seed < 0) {
            return OUTSIDE;
        }
        long next = seed;
        int came = 0;
        while (came < many && strays.size() < 12) {
            int[] drawn = new int[3];
            for (int i = 0; i < 3; i++) {
                next = Math.floorMod(1103515245L * next + 12345L, 1L << 31);
                drawn[i] = (int) (next / 65536 % (i < 2 ? w * h : 2));
            }
            stray(drawn[0], drawn[1], drawn[2] == 1);
            came++;
        }
        return came;
    }

    // ---- what is told of all

    int count(int what) {
        if (what < 0 || what > 6) {
            return OUTSIDE;
        }
        int many = 0;
        int letters = 0;
        int queues = 0;
        int done = 0;
        for (Circuit c : circuits) {
            if (c != null) {
                many++;
                letters += c.letters.size();
                queues += c.queue;
                done += c.done;
            }
        }
        return new int[] {many, letters, strays.size(), queues, done, page.length(), reads}[what];
    }

    long digest() {
        List<Integer> all = new ArrayList<>();
        for (int what = 0; there && what <= 7; what++) {
            all.add(about(what));
        }
        for (int link = 0; link < 54; link++) {
            for (int what = 0; end(link) != null && what <= 3; what++) {
                all.add(link(link, what));
            }
        }
        for (int c = 0; c < 8; c++) {
            if (circuits[c] != null) {
                all.add(c);
                for (int what = 0; what <= 14; what++) {
                    all.add(circuit(c, what));
                }
                all.addAll(circuits[c].route.links);
                all.addAll(circuits[c].route.starts);
            }
        }
        for (int i = 0; i < strays.size(); i++) {
            for (int what = 0; what <= 4; what++) {
                all.add(straying(i, what));
            }
        }
        for (int i = 0; i < 6; i++) {
            all.add(arrived(i < 3, i % 3));
        }
        all.add(fastest());
        all.add(faster());
        for (int i = 0; i < page.length(); i++) {
            all.add((int) page.charAt(i));
        }
        for (int what = 0; what <= 6; what++) {
            all.add(count(what));
        }
        long hash = 1511;
        for (int number : all) {
            hash = 31 * hash + number;
        }
        return hash;
    }
}
