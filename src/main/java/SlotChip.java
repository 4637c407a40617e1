/** A chip of routers with tables of slots; the project's document numbers what each call promises. */
public final class SlotChip {
    public static final int NONE = -1, UNKNOWN = -101, OUTSIDE = -102, STATE = -103, FULL = -104;

    private static final int PORTS = 6;
    private static final int IN = 0, OUT = 1, NORTH = 2, EAST = 3, SOUTH = 4, WEST = 5;
    private static final int PLAIN = 0, SPREAD = 1, WIDE = 2, BURST = 3, SOLO = 4;
    private static final int MOST_ROUTERS = 9, MOST_LINKS = 54, MOST_SLOTS = 10;
    private static final int MOST_CIRCUITS = 8, MOST_STARTS = 4, MOST_WINDOW = 15, MOST_QUEUE = 99;
    private static final int MOST_HOPS = 6, MOST_PLACES = 8, MOST_TOLD = 3;
    private static final int MOST_STRAYS = 12, MOST_CYCLES = 40, MOST_LETTERS = 30;
    private static final int MISSING = -2;
    private static final int EMPTY = -1;

    private final Page page;
    private final Board board;
    private final Circuits circuits;
    private final Search search;
    private final Strays strays;
    private final Traffic traffic;
    private int chipsRead;

    public SlotChip() {
        page = new Page();
        board = new Board();
        circuits = new Circuits();
        search = new Search(board);
        strays = new Strays(board);
        traffic = new Traffic(board, circuits, strays);
        chipsRead = 0;
    }

    // ---- texts

    public int letter(int code) {
        if (code < 32 || code > 126) {
            return OUTSIDE;
        }
        return page.add(code) ? page.length : FULL;
    }

    public int blank() {
        int had = page.length;
        page.length = 0;
        return had;
    }

    public int fault() {
        return page.read();
    }

    public int chip() {
        page.read();
        if (!page.isChip) {
            return STATE;
        }
        board.set(page);
        circuits.clear();
        strays.clear();
        page.length = 0;
        chipsRead++;
        return board.grid.routers();
    }

    // ---- the chip

    public int about(int what) {
        if (what < 0 || what > 7) {
            return OUTSIDE;
        }
        return board.isThere() ? board.tell(what) : STATE;
    }

    public int link(int link, int what) {
        if (!board.grid.hasLink(link)) {
            return UNKNOWN;
        }
        return what < 0 || what > 3 ? OUTSIDE : board.tellLink(link, what);
    }

    public int slot(int link, int slot) {
        if (!board.grid.hasLink(link) || slot < 0 || slot >= board.slots) {
            return UNKNOWN;
        }
        return board.ownerOf(link, slot);
    }

    public int cut(int link, boolean broken) {
        if (!board.grid.hasInnerLink(link)) {
            return UNKNOWN;
        }
        if (board.isBroken(link) == broken || board.slotsHad(link) > 0) {
            return STATE;
        }
        board.setBroken(link, broken);
        return board.brokenLinks();
    }

    // ---- circuits

    public int open(int kind, int from, int to, int n, int window) {
        if (!board.isThere()) {
            return STATE;
        }
        if (!board.grid.hasRouter(from) || !board.grid.hasRouter(to) || from == to) {
            return UNKNOWN;
        }
        if (!isKind(kind) || n < 1 || n > MOST_STARTS || window < 1 || window > MOST_WINDOW) {
            return OUTSIDE;
        }
        Circuit unused = circuits.firstUnused();
        if (unused == null) {
            return FULL;
        }
        if (!search.find(kind, from, to, n)) {
            return STATE;
        }
        unused.set(kind, from, to, n, window, board.time);
        search.giveTo(unused);
        return unused.number;
    }

    public int as(int circuit, int kind) {
        Circuit one = circuits.find(circuit);
        if (one == null) {
            return UNKNOWN;
        }
        if (!isKind(kind)) {
            return OUTSIDE;
        }
        return one.isOf(kind) ? one.number : NONE;
    }

    public int circuit(int circuit, int what) {
        Circuit one = circuits.find(circuit);
        if (one == null) {
            return UNKNOWN;
        }
        if (what < 0 || what > 14) {
            return OUTSIDE;
        }
        return what < 8 ? one.tellMade(what, board.slots) : one.tellMoving(what);
    }

    public int route(int circuit, int place) {
        Circuit one = circuits.find(circuit);
        return one == null || place < 0 || place >= one.places() ? UNKNOWN : one.linkAt(place);
    }

    public int start(int circuit, int place) {
        Circuit one = circuits.find(circuit);
        return one == null || place < 0 || place >= one.n ? UNKNOWN : one.startAt(place);
    }

    public int pair(int one, int other) {
        Circuit first = circuits.find(one);
        Circuit second = circuits.find(other);
        if (first == null || second == null || one == other) {
            return UNKNOWN;
        }
        if (first.back != NONE || second.back != NONE || !first.isReverseOf(second)) {
            return STATE;
        }
        first.back = second.number;
        second.back = first.number;
        return first.hops + second.hops;
    }

    public int move(int circuit) {
        Circuit one = circuits.find(circuit);
        if (one == null) {
            return UNKNOWN;
        }
        if (one.lettersUnderWay() > 0) {
            return STATE;
        }
        board.mark(one, NONE);
        if (!search.find(one.kind, one.from, one.to, one.n)) {
            board.mark(one, one.number);
            return STATE;
        }
        search.giveTo(one);
        return one.hops;
    }

    public int close(int circuit) {
        Circuit one = circuits.find(circuit);
        if (one == null) {
            return UNKNOWN;
        }
        Circuit back = circuits.find(one.back);
        if (one.lettersUnderWay() > 0 || back != null && back.lettersUnderWay() > 0) {
            return STATE;
        }
        if (back != null) {
            back.back = NONE;
        }
        board.mark(one, NONE);
        one.live = false;
        return one.queue;
    }

    public int feed(int circuit, int many) {
        Circuit one = circuits.find(circuit);
        if (one == null) {
            return UNKNOWN;
        }
        if (many < 1 || many > MOST_QUEUE) {
            return OUTSIDE;
        }
        if (one.queue + many > MOST_QUEUE) {
            return FULL;
        }
        one.queue += many;
        return one.queue;
    }

    public int take(int circuit, int many) {
        Circuit one = circuits.find(circuit);
        if (one == null) {
            return UNKNOWN;
        }
        if (many < 1 || many > MOST_QUEUE) {
            return OUTSIDE;
        }
        if (many > one.come) {
            return STATE;
        }
        one.come -= many;
        one.owed += many;
        return one.come;
    }

    public int fastest() {
        return circuits.fastestAt(board.time);
    }

    // ---- strays

    public int stray(int from, int to, boolean urgent) {
        if (!board.isThere()) {
            return STATE;
        }
        if (!board.grid.hasRouter(from) || !board.grid.hasRouter(to)) {
            return UNKNOWN;
        }
        return strays.add(from, to, urgent) ? strays.many : FULL;
    }

    public int straying(int stray, int what) {
        Stray one = strays.find(stray);
        if (one == null) {
            return UNKNOWN;
        }
        return what < 0 || what > 4 ? OUTSIDE : one.tell(what, board);
    }

    public int arrived(boolean urgent, int what) {
        return what < 0 || what > 2 ? OUTSIDE : strays.arrivals(urgent).tell(what);
    }

    public int faster() {
        return strays.arrivals(true).compareWith(strays.arrivals(false));
    }

    // ---- time

    public int run(int cycles) {
        if (cycles < 1 || cycles > MOST_CYCLES) {
            return OUTSIDE;
        }
        if (!board.isThere()) {
            return STATE;
        }
        int came = 0;
        for (int cycle = 0; cycle < cycles; cycle++) {
            came += traffic.goOn();
        }
        return came;
    }

    public int storm(int many, int seed) {
        if (!board.isThere()) {
            return STATE;
        }
        if (many < 1 || many > MOST_STRAYS || seed < 0) {
            return OUTSIDE;
        }
        return strays.addDrawn(many, seed);
    }

    // ---- what is told of all

    public int count(int what) {
        switch (what) {
            case 0:
            case 1:
            case 3:
            case 4:
                return circuits.sumOf(what);
            case 2:
                return strays.many;
            case 5:
                return page.length;
            case 6:
                return chipsRead;
            default:
                return OUTSIDE;
        }
    }

    public long digest() {
        long h = board.isThere() ? mixBoard(1511L) : 1511L;
        for (int number = 0; number < MOST_CIRCUITS; number++) {
            Circuit one = circuits.find(number);
            h = one == null ? h : mixCircuit(h, one);
        }
        h = mixStrays(h);
        h = mix(h, fastest());
        h = mix(h, faster());
        for (int place = 0; place < page.length; place++) {
            h = mix(h, page.codeAt(place));
        }
        for (int what = 0; what <= 6; what++) {
            h = mix(h, count(what));
        }
        return h;
    }

    private static long mix(long h, int number) {
        return 31L * h + number;
    }

    private long mixBoard(long before) {
        long h = before;
        for (int what = 0; what <= 7; what++) {
            h = mix(h, board.tell(what));
        }
        for (int link = 0; link < MOST_LINKS; link++) {
            for (int what = 0; what <= 3 && board.grid.hasLink(link); what++) {
                h = mix(h, board.tellLink(link, what));
            }
        }
        return h;
    }

    private long mixCircuit(long before, Circuit one) {
        long h = mix(before, one.number);
        for (int what = 0; what <= 14; what++) {
            h = mix(h, circuit(one.number, what));
        }
        for (int place = 0; place < one.places(); place++) {
            h = mix(h, one.linkAt(place));
        }
        for (int place = 0; place < one.n; place++) {
            h = mix(h, one.startAt(place));
        }
        return h;
    }

    private long mixStrays(long before) {
        long h = before;
        for (int place = 0; place < strays.many; place++) {
            for (int what = 0; what <= 4; what++) {
                h = mix(h, straying(place, what));
            }
        }
        for (int what = 0; what <= 2; what++) {
            h = mix(h, arrived(true, what));
        }
        for (int what = 0; what <= 2; what++) {
            h = mix(h, arrived(false, what));
        }
        return h;
    }

    private static boolean isKind(int kind) {
        return kind >= PLAIN && kind <= SOLO;
    }

    private static boolean isLinkNumber(int link) {
        return link >= 0 && link < MOST_LINKS;
    }

    private static int linkOf(int router, int port) {
        return PORTS * router + port;
    }

    /** The letters that came, and what chip they tell, as far as some chip has such letters. */
    static final class Page {
        int length;
        int width;
        int height;
        int slots;
        boolean isChip;
        private final int[] codes = new int[MOST_LETTERS];
        private final Grid grid = new Grid();
        private final boolean[] nameable = new boolean[MOST_LINKS];
        private int router;

        boolean add(int code) {
            if (length < 0 || length >= MOST_LETTERS) {
                return false;
            }
            codes[length] = code;
            length++;
            return true;
        }

        int codeAt(int place) {
            return place < 0 || place >= MOST_LETTERS ? NONE : codes[place];
        }

        /** The first place that no chip has so; the length, if there is none. */
        int read() {
            slots = 0;
            int place = 0;
            while (place < length && takes(place, codeAt(place))) {
                place++;
            }
            isChip = place == length && slots >= 4 && partOfBreak(place) == 0;
            return place;
        }

        /** Whether the chip that was read has this link as a broken one. */
        boolean namesBroken(int link) {
            return grid.hasInnerLink(link) && isLinkNumber(link) && !nameable[link];
        }

        private boolean takes(int place, int code) {
            switch (place) {
                case 0:
                    width = code - '0';
                    return width == 2 || width == 3;
                case 1:
                    return code == 'x';
                case 2:
                    height = code - '0';
                    return height == 2 || height == 3;
                case 3:
                    layGrid();
                    return code == ':';
                case 4:
                    slots = code - '0';
                    return slots == 1 || slots >= 4 && slots <= 9;
                default:
                    return slots == 1 ? takesZero(code) : takesBreak(place, code);
            }
        }

        private void layGrid() {
            grid.set(width, height);
            for (int link = 0; link < MOST_LINKS; link++) {
                nameable[link] = grid.hasInnerLink(link);
            }
        }

        private boolean takesZero(int code) {
            if (code != '0') {
                return false;
            }
            slots = 10;
            return true;
        }

        private int partOfBreak(int place) {
            return (place - (slots == 10 ? 6 : 5)) % 3;
        }

        // What follows must be able to end in a link that was not named yet, or no chip goes on so.
        private boolean takesBreak(int place, int code) {
            switch (partOfBreak(place)) {
                case 0:
                    return code == '-' && anyNameable(0, MOST_LINKS);
                case 1:
                    router = code - '0';
                    return grid.hasRouter(router) && anyNameable(linkOf(router, 0), linkOf(router, PORTS));
                default:
                    return takesPort(portOf(code));
            }
        }

        private boolean anyNameable(int first, int end) {
            for (int link = Math.max(0, first); link < end && link < MOST_LINKS; link++) {
                if (nameable[link]) {
                    return true;
                }
            }
            return false;
        }

        private boolean takesPort(int port) {
            int link = linkOf(router, port);
            if (port == NONE || !isLinkNumber(link) || !nameable[link]) {
                return false;
            }
            nameable[link] = false;
            return true;
        }

        private static int portOf(int code) {
            switch (code) {
                case 'n':
                    return NORTH;
                case 'e':
                    return EAST;
                case 's':
                    return SOUTH;
                case 'w':
                    return WEST;
                default:
                    return NONE;
            }
        }
    }

    /** Routers in rows, and where the links between them lead. At first there are none. */
    static final class Grid {
        int width;
        int height;
        private final int[] ends = new int[MOST_LINKS];

        Grid() {
            for (int link = 0; link < MOST_LINKS; link++) {
                ends[link] = MISSING;
            }
        }

        void set(int itsWidth, int itsHeight) {
            width = itsWidth;
            height = itsHeight;
            for (int link = 0; link < MOST_LINKS; link++) {
                int router = link / PORTS;
                ends[link] = hasRouter(router) ? endBeside(router, link % PORTS) : MISSING;
            }
        }

        int routers() {
            return width * height;
        }

        boolean hasRouter(int router) {
            return router >= 0 && router < routers() && router < MOST_ROUTERS;
        }

        int column(int router) {
            return width < 1 ? 0 : router % width;
        }

        int row(int router) {
            return width < 1 ? 0 : router / width;
        }

        boolean hasLink(int link) {
            return isLinkNumber(link) && ends[link] != MISSING;
        }

        /** Whether it is a link between two routers. */
        boolean hasInnerLink(int link) {
            return hasLink(link) && link % PORTS >= NORTH;
        }

        /** The router to which a link leads; NONE, if it leads outside. */
        int endOf(int link) {
            return hasLink(link) ? ends[link] : NONE;
        }

        private int endBeside(int router, int port) {
            switch (port) {
                case IN:
                    return router;
                case OUT:
                    return NONE;
                case NORTH:
                    return row(router) > 0 ? router - width : MISSING;
                case EAST:
                    return column(router) < width - 1 ? router + 1 : MISSING;
                case SOUTH:
                    return row(router) < height - 1 ? router + width : MISSING;
                default:
                    return column(router) > 0 ? router - 1 : MISSING;
            }
        }
    }

    /** The chip that was read: its links, who has their slots, and the time. */
    static final class Board {
        final Grid grid = new Grid();
        int slots;
        int time;
        private final boolean[] broken = new boolean[MOST_LINKS];
        private final int[] uses = new int[MOST_LINKS];
        private final int[] owners = new int[MOST_LINKS * MOST_SLOTS];

        void set(Page page) {
            grid.set(page.width, page.height);
            slots = page.slots;
            time = 0;
            for (int link = 0; link < MOST_LINKS; link++) {
                broken[link] = page.namesBroken(link);
                uses[link] = 0;
            }
            for (int place = 0; place < MOST_LINKS * MOST_SLOTS; place++) {
                owners[place] = NONE;
            }
        }

        boolean isThere() {
            return slots > 0;
        }

        int slotNow() {
            return slots < 1 ? 0 : Math.floorMod(time, slots);
        }

        boolean isBroken(int link) {
            return isLinkNumber(link) && broken[link];
        }

        void setBroken(int link, boolean isSo) {
            if (isLinkNumber(link)) {
                broken[link] = isSo;
            }
        }

        /** A letter or a stray is on a link in this cycle. */
        void use(int link) {
            if (isLinkNumber(link)) {
                uses[link]++;
            }
        }

        int ownerOf(int link, int slot) {
            if (!isLinkNumber(link) || slot < 0 || slot >= MOST_SLOTS) {
                return NONE;
            }
            return owners[MOST_SLOTS * link + slot];
        }

        /** The slots that a circuit has by its route and its starts get an owner (NONE: they are given back). */
        void mark(Circuit circuit, int owner) {
            for (int place = 0; place < circuit.places(); place++) {
                for (int start = 0; start < slots; start++) {
                    if (circuit.hasStart(start)) {
                        setOwner(circuit.linkAt(place), slotOf(start, place), owner);
                    }
                }
            }
        }

        /** The starts that meet no circuit on a link, if it has this place of a route: a bit for each. */
        int freeStarts(int link, int place) {
            int free = 0;
            for (int start = 0; start < slots; start++) {
                if (ownerOf(link, slotOf(start, place)) == NONE) {
                    free |= 1 << start;
                }
            }
            return free;
        }

        int slotsHad(int link) {
            int had = 0;
            for (int slot = 0; slot < slots; slot++) {
                if (ownerOf(link, slot) != NONE) {
                    had++;
                }
            }
            return had;
        }

        int brokenLinks() {
            int sum = 0;
            for (int link = 0; link < MOST_LINKS; link++) {
                if (broken[link]) {
                    sum++;
                }
            }
            return sum;
        }

        int tell(int what) {
            switch (what) {
                case 0:
                    return grid.width;
                case 1:
                    return grid.height;
                case 2:
                    return slots;
                case 3:
                    return links();
                case 4:
                    return brokenLinks();
                case 5:
                    return allSlotsHad();
                case 6:
                    return time;
                default:
                    return mostUsed();
            }
        }

        int tellLink(int link, int what) {
            switch (what) {
                case 0:
                    return grid.endOf(link);
                case 1:
                    return isBroken(link) ? 1 : 0;
                case 2:
                    return slotsHad(link);
                default:
                    return isLinkNumber(link) ? uses[link] : 0;
            }
        }

        private int slotOf(int start, int place) {
            return slots < 1 ? 0 : (start + place) % slots;
        }

        private void setOwner(int link, int slot, int owner) {
            if (isLinkNumber(link) && slot >= 0 && slot < MOST_SLOTS) {
                owners[MOST_SLOTS * link + slot] = owner;
            }
        }

        private int links() {
            int sum = 0;
            for (int link = 0; link < MOST_LINKS; link++) {
                if (grid.hasLink(link)) {
                    sum++;
                }
            }
            return sum;
        }

        private int allSlotsHad() {
            int sum = 0;
            for (int place = 0; place < MOST_LINKS * MOST_SLOTS; place++) {
                if (owners[place] != NONE) {
                    sum++;
                }
            }
            return sum;
        }

        // Link 0 is on every chip: of like ones, unused ones too, it is the least.
        private int mostUsed() {
            int most = 0;
            for (int link = 1; link < MOST_LINKS; link++) {
                if (uses[link] > uses[most]) {
                    most = link;
                }
            }
            return most;
        }
    }

    /** All circuits that can be, made once; those that are live are there. */
    static final class Circuits {
        private final Circuit[] all = new Circuit[MOST_CIRCUITS];

        Circuits() {
            for (int number = 0; number < MOST_CIRCUITS; number++) {
                all[number] = new Circuit(number);
            }
        }

        void clear() {
            for (int number = 0; number < MOST_CIRCUITS; number++) {
                all[number].live = false;
            }
        }

        /** The circuit of a number; null, if there is none. */
        Circuit find(int number) {
            if (number < 0 || number >= MOST_CIRCUITS) {
                return null;
            }
            return all[number].live ? all[number] : null;
        }

        Circuit firstUnused() {
            for (int number = 0; number < MOST_CIRCUITS; number++) {
                if (!all[number].live) {
                    return all[number];
                }
            }
            return null;
        }

        int fastestAt(int time) {
            Circuit best = null;
            for (int number = 0; number < MOST_CIRCUITS; number++) {
                Circuit one = find(number);
                if (one != null && (best == null || one.isFasterThan(best, time))) {
                    best = one;
                }
            }
            return best == null ? NONE : best.number;
        }

        int sumOf(int what) {
            int sum = 0;
            for (int number = 0; number < MOST_CIRCUITS; number++) {
                Circuit one = find(number);
                sum += one == null ? 0 : one.shareOf(what);
            }
            return sum;
        }
    }

    /** A circuit: its numbers, its route, and the letters on the links of that. */
    static final class Circuit {
        final int number;
        boolean live;
        int kind;
        int from;
        int to;
        int n;
        int hops;
        int back;
        int queue;
        int come;
        int owed;
        private int credits;
        private int done;
        private int window;
        private int opened;
        private int starts;
        private final int[] links = new int[MOST_PLACES];
        private final int[] letters = new int[MOST_PLACES];

        Circuit(int number) {
            this.number = number;
        }

        void set(int itsKind, int itsFrom, int itsTo, int itsN, int itsWindow, int time) {
            live = true;
            kind = itsKind;
            from = itsFrom;
            to = itsTo;
            n = itsN;
            window = itsWindow;
            opened = time;
            back = NONE;
            queue = 0;
            credits = itsWindow;
            come = 0;
            owed = 0;
            done = 0;
            for (int place = 0; place < MOST_PLACES; place++) {
                letters[place] = EMPTY;
            }
        }

        void setRoute(int[] way, int itsHops, int itsStarts) {
            hops = Math.max(0, Math.min(Math.min(itsHops, MOST_HOPS), way.length));
            starts = itsStarts;
            links[0] = linkOf(from, IN);
            for (int hop = 0; hop < hops; hop++) {
                links[hop + 1] = way[hop];
            }
            links[hops + 1] = linkOf(to, OUT);
        }

        int places() {
            return Math.min(hops + 2, MOST_PLACES);
        }

        int linkAt(int place) {
            return place < 0 || place >= MOST_PLACES ? NONE : links[place];
        }

        boolean hasStart(int slot) {
            return (starts >> slot & 1) == 1;
        }

        int startAt(int place) {
            int left = place;
            for (int slot = 0; slot < MOST_SLOTS; slot++) {
                if (hasStart(slot)) {
                    if (left == 0) {
                        return slot;
                    }
                    left--;
                }
            }
            return NONE;
        }

        boolean isOf(int asked) {
            return asked == PLAIN || asked == kind || asked == SPREAD && kind == WIDE;
        }

        boolean isReverseOf(Circuit other) {
            return from == other.to && to == other.from;
        }

        // Each speed times both spans, so that nothing is cut; without a cycle nothing can have come.
        boolean isFasterThan(Circuit other, int time) {
            long span = Math.max(1, time - opened);
            long otherSpan = Math.max(1, time - other.opened);
            return done * otherSpan > other.done * span;
        }

        int lettersUnderWay() {
            int many = 0;
            for (int place = 0; place < MOST_PLACES; place++) {
                if (letters[place] != EMPTY) {
                    many++;
                }
            }
            return many;
        }

        private int letterAt(int place) {
            return place < 0 || place >= MOST_PLACES ? EMPTY : letters[place];
        }

        boolean hasLetterOn(int link) {
            for (int place = 0; place < places(); place++) {
                if (links[place] == link && letters[place] != EMPTY) {
                    return true;
                }
            }
            return false;
        }

        /** A letter leaves, if there is anything that it can carry. */
        void send(Circuit itsBack) {
            int goods = queue > 0 && credits > 0 ? 1 : 0;
            int told = itsBack == null ? 0 : Math.min(itsBack.owed, MOST_TOLD);
            if (goods == 0 && told == 0) {
                return;
            }
            queue -= goods;
            credits -= goods;
            if (itsBack != null) {
                itsBack.owed -= told;
            }
            letters[0] = letterOf(goods, told);
        }

        void useLinks(Board board) {
            for (int place = 0; place < places(); place++) {
                if (letters[place] != EMPTY) {
                    board.use(links[place]);
                }
            }
        }

        /** The letters leave their links for the next ones: how much came by the last link. */
        int advance(Circuit itsBack) {
            int last = letterAt(places() - 1);
            for (int place = places() - 1; place > 0; place--) {
                letters[place] = letters[place - 1];
            }
            letters[0] = EMPTY;
            return last == EMPTY ? 0 : deliver(last, itsBack);
        }

        private int deliver(int letter, Circuit itsBack) {
            int goods = goodsOf(letter);
            come += goods;
            done += goods;
            if (itsBack != null) {
                itsBack.credits += toldOf(letter);
            }
            return goods;
        }

        private static int letterOf(int goods, int told) {
            return 2 * told + goods;
        }

        private static int goodsOf(int letter) {
            return letter & 1;
        }

        private static int toldOf(int letter) {
            return letter >> 1;
        }

        int tellMade(int what, int slots) {
            switch (what) {
                case 0:
                    return kind;
                case 1:
                    return from;
                case 2:
                    return to;
                case 3:
                    return n;
                case 4:
                    return window;
                case 5:
                    return hops;
                case 6:
                    return Starts.gapOf(starts, slots);
                default:
                    return back;
            }
        }

        int tellMoving(int what) {
            switch (what) {
                case 8:
                    return queue;
                case 9:
                    return credits;
                case 10:
                    return come;
                case 11:
                    return owed;
                case 12:
                    return done;
                case 13:
                    return lettersUnderWay();
                default:
                    return opened;
            }
        }

        /** What it adds to a number that is told of all circuits. */
        int shareOf(int what) {
            switch (what) {
                case 0:
                    return 1;
                case 1:
                    return lettersUnderWay();
                case 3:
                    return queue;
                default:
                    return done;
            }
        }
    }

    /** The choice of starts. A set of them is an int with a bit for each. */
    static final class Starts {
        private Starts() {
        }

        /** Those that a kind gets out of the free ones; 0, if there are none for it. */
        static int choose(int kind, int free, int n, int slots) {
            if (n < 1 || Integer.bitCount(free) < n) {
                return 0;
            }
            switch (kind) {
                case SPREAD:
                case WIDE:
                    return evenest(free, n, slots);
                case BURST:
                    return firstRun(free, n, slots);
                default:
                    return least(free, n);
            }
        }

        // Twice round, so that the step from the last start to the first one is met, too.
        static int gapOf(int starts, int slots) {
            int gap = 0;
            int ahead = NONE;
            for (int step = 0; step < 2 * slots; step++) {
                int slot = step < slots ? step : step - slots;
                if ((starts >> slot & 1) == 1) {
                    gap = ahead == NONE ? gap : Math.max(gap, step - ahead);
                    ahead = step;
                }
            }
            return gap;
        }

        private static int least(int free, int n) {
            int others = free;
            for (int taken = 0; taken < n; taken++) {
                others &= others - 1;
            }
            return free & ~others;
        }

        private static int firstRun(int free, int n, int slots) {
            for (int first = 0; first < slots; first++) {
                int burst = burstFrom(first, n, slots);
                if ((burst & free) == burst) {
                    return burst;
                }
            }
            return 0;
        }

        private static int burstFrom(int first, int n, int slots) {
            int burst = 0;
            for (int step = first; step < first + n; step++) {
                burst |= 1 << (step < slots ? step : step - slots);
            }
            return burst;
        }

        private static int evenest(int free, int n, int slots) {
            int best = 0;
            int bestGap = slots + 1;
            for (int set = 1; set <= free; set++) {
                if ((set & free) == set && Integer.bitCount(set) == n) {
                    int gap = gapOf(set, slots);
                    if (gap < bestGap || gap == bestGap && comesAhead(set, best)) {
                        best = set;
                        bestGap = gap;
                    }
                }
            }
            return best;
        }

        // Of two sets of one size, that which has the lowest bit in which they are unlike has the lesser start there.
        private static boolean comesAhead(int one, int other) {
            int unlike = one ^ other;
            return (one & unlike & -unlike) != 0;
        }
    }

    /** Looks for the first way, and the starts by it, that a circuit can have. */
    static final class Search {
        private final Board board;
        private final int[] way = new int[MOST_HOPS];
        private final boolean[] passed = new boolean[MOST_ROUTERS];
        private int kind;
        private int goal;
        private int n;
        private int length;
        private int starts;
        private boolean reached;

        Search(Board board) {
            this.board = board;
        }

        boolean find(int itsKind, int from, int to, int itsN) {
            kind = itsKind;
            goal = to;
            n = itsN;
            starts = 0;
            reached = false;
            if (from < 0 || from >= MOST_ROUTERS) {
                return false;
            }
            passed[from] = true;
            for (int hops = 1; hops <= MOST_HOPS && starts == 0 && (kind == WIDE || !reached); hops++) {
                length = hops;
                walk(from, 0, board.freeStarts(linkOf(from, IN), 0));
            }
            passed[from] = false;
            return starts != 0;
        }

        void giveTo(Circuit circuit) {
            circuit.setRoute(way, length, starts);
            board.mark(circuit, circuit.number);
        }

        // Goes through the ways of one length, the lesser port first, until one has starts.
        private void walk(int router, int hops, int free) {
            if (router == goal || hops >= length) {
                end(router, hops, free);
                return;
            }
            for (int port = NORTH; port <= WEST && starts == 0; port++) {
                hop(linkOf(router, port), hops, free);
            }
        }

        private void hop(int link, int hops, int free) {
            int next = board.isBroken(link) ? NONE : board.grid.endOf(link);
            if (next < 0 || next >= MOST_ROUTERS || passed[next] || hops < 0 || hops >= MOST_HOPS) {
                return;
            }
            way[hops] = link;
            passed[next] = true;
            walk(next, hops + 1, free & board.freeStarts(link, hops + 1));
            passed[next] = false;
        }

        private void end(int router, int hops, int free) {
            if (router == goal && hops == length) {
                reached = true;
                int freeOut = board.freeStarts(linkOf(router, OUT), hops + 1);
                starts = Starts.choose(kind, free & freeOut, n, board.slots);
            }
        }
    }

    /** A letter without a circuit. */
    static final class Stray {
        boolean urgent;
        boolean isOut;
        int nextLink;
        private int from;
        private int to;
        private int at;
        private int came;

        void set(int itsFrom, int itsTo, boolean isUrgent, int time) {
            from = itsFrom;
            to = itsTo;
            urgent = isUrgent;
            isOut = false;
            at = NONE;
            came = time;
        }

        int tell(int what, Board board) {
            switch (what) {
                case 0:
                    return to;
                case 1:
                    return urgent ? 1 : 0;
                case 2:
                    return at;
                case 3:
                    return age(board.time);
                default:
                    return linkAhead(board.grid);
            }
        }

        /** How many cycles began since it came, ahead of that which begins at this time. */
        int age(int time) {
            return time - came;
        }

        int linkAhead(Grid grid) {
            if (at == NONE) {
                return linkOf(from, IN);
            }
            return linkOf(at, at == to ? OUT : portAhead(grid));
        }

        private int portAhead(Grid grid) {
            int columns = grid.column(to) - grid.column(at);
            if (columns != 0) {
                return columns > 0 ? EAST : WEST;
            }
            return grid.row(to) > grid.row(at) ? SOUTH : NORTH;
        }

        void goOn(Grid grid) {
            at = grid.endOf(nextLink);
            isOut = at == NONE;
        }
    }

    /** What is told of strays that went out. */
    static final class Arrivals {
        private int many;
        private int delays;
        private int greatest;

        void clear() {
            many = 0;
            delays = 0;
            greatest = 0;
        }

        void add(int delay) {
            many++;
            delays += delay;
            greatest = Math.max(greatest, delay);
        }

        int tell(int what) {
            switch (what) {
                case 0:
                    return many;
                case 1:
                    return delays;
                default:
                    return greatest;
            }
        }

        // Each average times both numbers, so that nothing is cut.
        int compareWith(Arrivals others) {
            if (many == 0 || others.many == 0) {
                return -2;
            }
            long mine = (long) delays * others.many;
            long theirs = (long) others.delays * many;
            return mine < theirs ? 1 : mine == theirs ? 0 : -1;
        }
    }

    /** The strays under way, in the order in which they came. */
    static final class Strays {
        int many;
        private final Board board;
        private final Stray[] line = new Stray[MOST_STRAYS];
        private final Arrivals urgentOnes = new Arrivals();
        private final Arrivals others = new Arrivals();
        private int seed;

        Strays(Board board) {
            this.board = board;
            for (int place = 0; place < MOST_STRAYS; place++) {
                line[place] = new Stray();
            }
        }

        void clear() {
            many = 0;
            urgentOnes.clear();
            others.clear();
        }

        /** The stray at a place; null, if there is none. */
        Stray find(int place) {
            return place < 0 || place >= many || place >= MOST_STRAYS ? null : line[place];
        }

        Arrivals arrivals(boolean urgent) {
            return urgent ? urgentOnes : others;
        }

        boolean add(int from, int to, boolean urgent) {
            if (many < 0 || many >= MOST_STRAYS) {
                return false;
            }
            line[many].set(from, to, urgent, board.time);
            many++;
            return true;
        }

        int addDrawn(int wanted, int itsSeed) {
            seed = itsSeed;
            int before = many;
            for (int drawn = 0; drawn < wanted && many < MOST_STRAYS; drawn++) {
                int from = draw(board.grid.routers());
                int to = draw(board.grid.routers());
                add(from, to, draw(2) == 1);
            }
            return many - before;
        }

        private int draw(int below) {
            seed = (int) (1103515245L * seed + 12345L & 0x7fffffffL);
            return below < 1 ? 0 : seed / 65536 % below;
        }

        // All know their next links before one goes on, since the beginning of the cycle counts.
        void lookAhead() {
            for (int place = 0; place < many && place < MOST_STRAYS; place++) {
                line[place].nextLink = line[place].linkAhead(board.grid);
            }
        }

        /** Whether no other stray with the same next link goes ahead of this one. */
        boolean isFirst(int place) {
            Stray one = find(place);
            if (one == null) {
                return false;
            }
            for (int other = 0; other < many && other < MOST_STRAYS; other++) {
                Stray rival = line[other];
                boolean isAhead = rival.urgent == one.urgent ? other < place : rival.urgent;
                if (rival.nextLink == one.nextLink && isAhead) {
                    return false;
                }
            }
            return true;
        }

        /** Those that went out in this cycle leave the line: how many. */
        int letOut() {
            int before = many;
            int kept = 0;
            for (int place = 0; place < before && place < MOST_STRAYS; place++) {
                Stray one = line[place];
                if (one.isOut) {
                    arrivals(one.urgent).add(one.age(board.time) + 1);
                } else {
                    line[place] = line[kept];
                    line[kept] = one;
                    kept++;
                }
            }
            many = kept;
            return before - kept;
        }
    }

    /** What happens in a cycle. */
    static final class Traffic {
        private final Board board;
        private final Circuits circuits;
        private final Strays strays;

        Traffic(Board board, Circuits circuits, Strays strays) {
            this.board = board;
            this.circuits = circuits;
            this.strays = strays;
        }

        /** A cycle goes by: how much came by circuits, and how many strays went out. */
        int goOn() {
            sendLetters();
            moveStrays();
            int came = strays.letOut() + moveLetters();
            board.time++;
            return came;
        }

        private void sendLetters() {
            int slot = board.slotNow();
            for (int number = 0; number < MOST_CIRCUITS; number++) {
                Circuit one = circuits.find(number);
                if (one != null && one.hasStart(slot)) {
                    one.send(circuits.find(one.back));
                }
            }
        }

        private void moveStrays() {
            strays.lookAhead();
            for (int place = 0; place < strays.many; place++) {
                Stray one = strays.find(place);
                if (one != null && strays.isFirst(place) && isFree(one.nextLink)) {
                    board.use(one.nextLink);
                    one.goOn(board.grid);
                }
            }
        }

        // A letter is only ever on a link in a slot that its circuit has, so the slot's owner tells all.
        private boolean isFree(int link) {
            if (board.isBroken(link)) {
                return false;
            }
            Circuit owner = circuits.find(board.ownerOf(link, board.slotNow()));
            return owner == null || owner.kind != SOLO && !owner.hasLetterOn(link);
        }

        private int moveLetters() {
            int came = 0;
            for (int number = 0; number < MOST_CIRCUITS; number++) {
                Circuit one = circuits.find(number);
                if (one != null) {
                    one.useLinks(board);
                    came += one.advance(circuits.find(one.back));
                }
            }
            return came;
        }
    }
}
