/** What the tests share: how an answer is compared, and how objects are brought to where an edge is. */
abstract class Checks {
    static final int BAD = -1, NOT = -2, FULL = -3, NONE = -4, NULL = -11, CAST = -12, INDEX = -13, SIZE = -14;
    static final int MIN = Integer.MIN_VALUE, MAX = Integer.MAX_VALUE;
    static final int PROMISES = 36;

    private static final int[] EDGES = new int[PROMISES + 1];
    private static int wrong = 0;
    private static int checked = 0;
    private static String heading = "";

    /** One sentence of the document, tried on a new object. */
    interface Edge {
        void on(LineCaster x);
    }

    static void edge(int promise, String sentence, Edge edge) {
        EDGES[promise]++;
        under("promise " + promise + ", \"" + sentence + "\"");
        int before = checked;
        try {
            edge.on(new LineCaster());
        } catch (RuntimeException thrown) {
            fault("threw " + thrown);
        }
        if (checked == before) fault("nothing was checked");
    }

    static void under(String newHeading) {
        heading = newHeading;
    }

    static void due(String call, long want, long got) {
        checked++;
        if (got != want) fault(call + " answered " + got + ", due is " + want);
    }

    static void fault(String text) {
        wrong++;
        System.out.println(heading + ": " + text);
    }

    /** Each promise from the first to the last must have had an edge. */
    static void dueEdges(int first, int last) {
        for (int p = first; p <= last; p++) {
            under("promise " + p);
            if (EDGES[p] == 0) fault("no edge was tried");
        }
    }

    static void end(String holds) {
        System.out.println(wrong == 0 ? holds + " (" + checked + " answers)" : wrong + " faults");
        if (wrong != 0) System.exit(1);
    }

    // ---- objects brought to where an edge is

    static LineCaster withMoulds(int... letters) {
        LineCaster x = new LineCaster();
        addMoulds(x, letters);
        return x;
    }

    static void addMoulds(LineCaster x, int... letters) {
        for (int letter : letters) x.mould(letter, 0);
    }

    static void addMany(LineCaster x, int letter, int n) {
        for (int m = 0; m < n; m++) x.mould(letter, 0);
    }

    /** A sheet of a lane with these items. */
    static void fill(LineCaster x, int sheet, int lane, int... items) {
        due("sheet", items.length, x.sheet(sheet, lane, items.length));
        for (int i = 0; i < items.length; i++) due("item", 1, x.item(sheet, lane, i, items[i]));
    }

    static int write(LineCaster x, String text) {
        int answer = 0;
        for (int i = 0; i < text.length(); i++) answer = x.type(text.charAt(i), 1);
        return answer;
    }

    /** All keys reach alike, so that things come as they are let go. */
    static void levelReaches(LineCaster x) {
        for (int p = 0; p < 12; p++) x.place(p, 1, 0);
    }

    /** Takes 335 calls at most. */
    static void waitUntil(LineCaster x, int tick) {
        int now = x.count(8);
        while (now < tick) now = x.ticks(Math.min(300, tick - now));
    }

    // ---- rows of answers

    static void dueLine(LineCaster x, int... things) {
        due("line(-1)", things.length, x.line(-1));
        for (int i = 0; i < things.length; i++) due("line(" + i + ")", things[i], x.line(i));
        due("line(" + things.length + ")", NONE, x.line(things.length));
    }

    static void dueChannel(LineCaster x, int place, int... moulds) {
        due("channel(" + place + ", -1)", moulds.length, x.channel(place, -1));
        for (int i = 0; i < moulds.length; i++) {
            due("channel(" + place + ", " + i + ")", moulds[i], x.channel(place, i));
        }
        due("channel(" + place + ", " + moulds.length + ")", NONE, x.channel(place, moulds.length));
    }

    static void dueSlug(LineCaster x, int slug, String text) {
        due("slug(" + slug + ", -1)", text.length(), x.slug(slug, -1));
        for (int i = 0; i < text.length(); i++) due("slug(" + slug + ", " + i + ")", text.charAt(i), x.slug(slug, i));
    }

    static void dueCounts(LineCaster x, int... counts) {
        for (int what = 0; what < counts.length; what++) due("count(" + what + ")", counts[what], x.count(what));
    }

    static void dueOrder(LineCaster x, int... letters) {
        for (int i = 0; i < 12; i++) due("order(" + i + ")", letters[i], x.order(i));
    }

    /** The first twelve items, read as rails (so each 0 .. 127). */
    static void dueItems(LineCaster x, int sheet, int lane, int... items) {
        due("rails of the items", 12, x.rails(sheet, lane, 0));
        for (int p = 0; p < 12; p++) due("item " + p, items[p], x.place(p, 0, 0));
    }
}
