/** The sizes that a chip can have, and what follows from them by the document's words alone. */
final class Sizes {
    static final int[][] ALL = {{2, 2}, {2, 3}, {3, 2}, {3, 3}};
    static final int MISSING = -101;

    private Sizes() {
    }

    static String text(int[] size, int slots) {
        return size[0] + "x" + size[1] + ":" + slots;
    }

    static int routers(int[] size) {
        return size[0] * size[1];
    }

    /** The router to which a link leads, -1 for OUT, MISSING if there is none such. */
    static int end(int[] size, int link) {
        if (link < 0 || link >= 6 * routers(size)) {
            return MISSING;
        }
        int router = link / 6;
        int x = router % size[0];
        int y = router / size[0];
        switch (link % 6) {
            case 0: return router;
            case 1: return -1;
            case 2: return at(size, x, y - 1);
            case 3: return at(size, x + 1, y);
            case 4: return at(size, x, y + 1);
            default: return at(size, x - 1, y);
        }
    }

    private static int at(int[] size, int x, int y) {
        return x < 0 || y < 0 || x >= size[0] || y >= size[1] ? MISSING : size[0] * y + x;
    }

    static boolean isInner(int[] size, int link) {
        return end(size, link) != MISSING && link % 6 >= 2;
    }

    /** How a chip's text names a link between routers. */
    static String name(int link) {
        return "-" + link / 6 + "nesw".charAt(link % 6 - 2);
    }
}
