/** Promises 33 to 36 (sheets): each sentence that names a boundary has a test of its own. */
public final class LineCasterEdgesOfSheets extends Checks {
    private static final int[] NO_SHEET = {-1, 4, MIN, MAX};
    private static final int[] NO_LANE = {-1, 3, MIN, MAX};

    public static void main(String[] args) {
        sheet();
        drop();
        item();
        itemBits();
        copy();
        copyFaults();
        copyOverlaps();
        dueEdges(33, 36);
        end("the edges of sheets hold");
    }

    private static void sheet() {
        edge(33, "SHEETS 0 .. 3: BAD", x -> {
            for (int s : NO_SHEET) due("sheet " + s, BAD, x.sheet(s, 0, 1));
            for (int s = 0; s < 4; s++) due("sheet " + s, s, x.sheet(s, 0, s));
            for (int s = 0; s < 4; s++) due("drop " + s, s, x.drop(s));
        });
        edge(33, "a LANE: 0 bytes, 1 shorts, 2 ints: BAD", x -> {
            for (int l : NO_LANE) due("lane " + l, BAD, x.sheet(0, l, 1));
            due("it holds nothing still", NULL, x.drop(0));
            for (int l = 0; l < 3; l++) {
                due("lane " + l, 1, x.sheet(0, l, 1));
                due("it is of that", 1, x.item(0, l, 0, 0));
            }
        });
        edge(33, "BAD: also n above 40", x -> {
            for (int n : new int[] {41, 42, 100, MAX}) due("n " + n, BAD, x.sheet(0, 0, n));
            due("it holds nothing still", NULL, x.drop(0));
            due("40", 40, x.sheet(0, 0, 40));
            due("the last", 1, x.item(0, 0, 39, 1));
            due("beyond", INDEX, x.item(0, 0, 40, 1));
        });
        edge(33, "SIZE: n below 0", x -> {
            for (int n : new int[] {-1, -40, MIN}) due("n " + n, SIZE, x.sheet(0, 0, n));
            due("it holds nothing still", NULL, x.drop(0));
            x.sheet(0, 1, 5);
            for (int n : new int[] {-1, MIN}) due("n " + n, SIZE, x.sheet(0, 0, n));
            due("it holds the old row", 1, x.item(0, 1, 4, 0));
            due("of 5", 5, x.drop(0));
        });
        edge(33, "of 0 to 40 items", x -> {
            due("0", 0, x.sheet(0, 0, 0));
            due("none to write", INDEX, x.item(0, 0, 0, 1));
            due("it holds a row", 0, x.drop(0));
        });
        edge(33, "BAD; SIZE: of several the first", x -> {
            for (int s : NO_SHEET) due("sheet " + s, BAD, x.sheet(s, 0, -1));
            for (int l : NO_LANE) due("lane " + l, BAD, x.sheet(0, l, -1));
        });
        edge(33, "a new row (0 at first)", x -> {
            for (int l = 0; l < 3; l++) {
                fill(x, 0, l, 1, 2, 3, 4, 5, 6, 7, 8, 9, 10, 11, 12);
                due("new", 12, x.sheet(0, l, 12));
                dueItems(x, 0, l, 0, 0, 0, 0, 0, 0, 0, 0, 0, 0, 0, 0);
            }
        });
        edge(33, "a new row: shorter, then longer", x -> {
            fill(x, 0, 0, 1, 2, 3, 4, 5, 6, 7, 8, 9, 10, 11, 12);
            x.sheet(0, 0, 3);
            due("beyond", INDEX, x.item(0, 0, 3, 1));
            x.sheet(0, 0, 12);
            dueItems(x, 0, 0, 0, 0, 0, 0, 0, 0, 0, 0, 0, 0, 0, 0);
        });
        edge(33, "A SHEET holds a new row: the others stay", x -> {
            fill(x, 1, 2, 1, 2, 3, 4, 5, 6, 7, 8, 9, 10, 11, 12);
            x.sheet(0, 0, 40);
            x.sheet(2, 0, 40);
            dueItems(x, 1, 2, 1, 2, 3, 4, 5, 6, 7, 8, 9, 10, 11, 12);
        });
        edge(33, "n: BAD changes nothing", x -> {
            fill(x, 1, 2, 1, 2, 3, 4, 5, 6, 7, 8, 9, 10, 11, 12);
            due("41", BAD, x.sheet(1, 0, 41));
            due("lane 3", BAD, x.sheet(1, 3, 1));
            dueItems(x, 1, 2, 1, 2, 3, 4, 5, 6, 7, 8, 9, 10, 11, 12);
        });
    }

    private static void drop() {
        edge(34, "BAD", x -> {
            for (int s : NO_SHEET) due("drop(" + s + ")", BAD, x.drop(s));
        });
        edge(34, "NULL", x -> {
            for (int s = 0; s < 4; s++) due("nothing at first", NULL, x.drop(s));
            x.sheet(3, 0, 7);
            due("7", 7, x.drop(3));
            due("nothing then", NULL, x.drop(3));
            due("nor in the others", NULL, x.drop(2));
        });
        edge(34, "how many items it had: 0, 40", x -> {
            x.sheet(0, 0, 0);
            x.sheet(1, 2, 40);
            due("0", 0, x.drop(0));
            due("40", 40, x.drop(1));
            due("a row of 0 is dropped too", NULL, x.drop(0));
        });
        edge(34, "holds nothing: each call on it finds NULL", x -> {
            x.sheet(0, 0, 40);
            x.drop(0);
            due("rails", NULL, x.rails(0, 0, 0));
            due("item", NULL, x.item(0, 0, 0, 0));
            due("comes", NULL, x.comes(0, 0, 0, 1, 1, 0));
            due("turned", NULL, x.turned(0, 0, 0, 1, 1));
            due("waits", NULL, x.waits(0, 0, 0, 1));
            due("gap", NULL, x.gap(0, 0, 0, 1));
            due("copy", NULL, x.copy(0, 0, 0, 0, 0));
        });
        edge(34, "holds nothing: a new row is 0 again", x -> {
            fill(x, 0, 0, 1, 2, 3, 4, 5, 6, 7, 8, 9, 10, 11, 12);
            x.drop(0);
            x.sheet(0, 0, 12);
            dueItems(x, 0, 0, 0, 0, 0, 0, 0, 0, 0, 0, 0, 0, 0, 0);
        });
    }

    private static void item() {
        edge(35, "BAD", x -> {
            for (int s = 0; s < 4; s++) x.sheet(s, 0, 1);
            for (int s : NO_SHEET) due("sheet " + s, BAD, x.item(s, 0, 0, 1));
            for (int l : NO_LANE) due("lane " + l, BAD, x.item(0, l, 0, 1));
            for (int s = 0; s < 4; s++) due("sheet " + s, 1, x.item(s, 0, 0, 1));
        });
        edge(35, "NULL", x -> {
            for (int s = 0; s < 4; s++) due("sheet " + s, NULL, x.item(s, 0, 0, 1));
        });
        edge(35, "CAST", x -> {
            for (int l = 0; l < 3; l++) {
                x.sheet(0, l, 1);
                for (int taken = 0; taken < 3; taken++) {
                    due("a row of " + l + " as " + taken, taken == l ? 1 : CAST, x.item(0, taken, 0, 1));
                }
            }
        });
        edge(35, "INDEX", x -> {
            for (int l = 0; l < 3; l++) {
                x.sheet(0, l, 5);
                for (int i : new int[] {-1, 5, 6, 39, 40, MIN, MAX}) due("item " + i, INDEX, x.item(0, l, i, 1));
                due("the first", 1, x.item(0, l, 0, 1));
                due("the last", 1, x.item(0, l, 4, 1));
            }
        });
        edge(35, "BAD; NULL; CAST; INDEX: of several the first", x -> {
            due("BAD ahead of NULL", BAD, x.item(0, 3, 0, 1));
            due("NULL ahead of INDEX", NULL, x.item(0, 0, -1, 1));
            x.sheet(0, 1, 1);
            due("BAD ahead of INDEX", BAD, x.item(0, -1, 1, 1));
            due("CAST ahead of INDEX", CAST, x.item(0, 0, 1, 1));
            due("INDEX", INDEX, x.item(0, 1, 1, 1));
        });
        edge(35, "CAST, INDEX change nothing", x -> {
            fill(x, 0, 0, 1, 2, 3, 4, 5, 6, 7, 8, 9, 10, 11, 12);
            x.item(0, 1, 3, 99);
            x.item(0, 0, 12, 99);
            x.item(0, 0, -1, 99);
            dueItems(x, 0, 0, 1, 2, 3, 4, 5, 6, 7, 8, 9, 10, 11, 12);
        });
    }

    private static void itemBits() {
        edge(35, "its lowest bits: a byte", x -> {
            dueItem(x, 0, 127, 127);
            dueItem(x, 0, 128, NOT);
            dueItem(x, 0, 255, NOT);
            dueItem(x, 0, 256, 0);
            dueItem(x, 0, 256 + 127, 127);
            dueItem(x, 0, -256 + 5, 5);
            dueItem(x, 0, -1, NOT);
            dueItem(x, 0, MIN, 0);
            dueItem(x, 0, MAX, NOT);
        });
        edge(35, "its lowest bits: a short", x -> {
            dueItem(x, 1, 127, 127);
            dueItem(x, 1, 128, NOT);
            dueItem(x, 1, 256, NOT);
            dueItem(x, 1, 32768, NOT);
            dueItem(x, 1, 65535, NOT);
            dueItem(x, 1, 65536, 0);
            dueItem(x, 1, 65536 + 127, 127);
            dueItem(x, 1, -65536 + 5, 5);
            dueItem(x, 1, MIN, 0);
        });
        edge(35, "its lowest bits: of an int all", x -> {
            dueItem(x, 2, 127, 127);
            dueItem(x, 2, 128, NOT);
            dueItem(x, 2, 256, NOT);
            dueItem(x, 2, 65536, NOT);
            dueItem(x, 2, MIN, NOT);
            dueItem(x, 2, MAX, NOT);
            dueItem(x, 2, -1, NOT);
        });
        edge(35, "taken as a KEY: 256 and 12 is 12 as a byte", x -> {
            x.sheet(0, 0, 1);
            x.item(0, 0, 0, 256 + 12);
            due("gap", 1, x.gap(0, 0, 0, 1));
            x.item(0, 0, 0, 256 + 13);
            due("gap", NOT, x.gap(0, 0, 0, 1));
        });
    }

    /** The last of twelve items becomes v; as rails it is `want`, or makes that fault. */
    private static void dueItem(LineCaster x, int lane, int v, int want) {
        x.sheet(0, lane, 12);
        due("item " + v, 1, x.item(0, lane, 11, v));
        int answer = x.rails(0, lane, 0);
        due("of " + v + " comes", want, answer == 12 ? x.place(11, 0, 0) : answer);
    }

    private static void copy() {
        edge(36, "BAD", x -> {
            for (int s = 0; s < 4; s++) x.sheet(s, 0, 1);
            for (int s : NO_SHEET) {
                due("from " + s, BAD, x.copy(s, 0, 0, 0, 1));
                due("to " + s, BAD, x.copy(0, 0, s, 0, 1));
            }
            for (int s = 0; s < 4; s++) due("from and to " + s, 1, x.copy(s, 0, 3 - s, 0, 1));
        });
        edge(36, "NULL (either)", x -> {
            due("both", NULL, x.copy(0, 0, 1, 0, 0));
            due("the same", NULL, x.copy(0, 0, 0, 0, 0));
            x.sheet(0, 0, 3);
            due("to", NULL, x.copy(0, 0, 1, 0, 0));
            due("from", NULL, x.copy(1, 0, 0, 0, 0));
            x.sheet(1, 0, 3);
            due("none", 0, x.copy(0, 0, 1, 0, 0));
        });
        edge(36, "CAST: of unlike LANES", x -> {
            for (int l = 0; l < 3; l++) {
                x.sheet(0, l, 3);
                for (int other = 0; other < 3; other++) {
                    x.sheet(1, other, 3);
                    due(l + " to " + other, l == other ? 3 : CAST, x.copy(0, 0, 1, 0, 3));
                    due(l + " to " + other + ", none", l == other ? 0 : CAST, x.copy(0, 0, 1, 0, 0));
                }
            }
        });
        edge(36, "BAD; NULL; CAST; INDEX: of several the first", x -> {
            due("BAD ahead of NULL", BAD, x.copy(0, 0, 4, 0, 1));
            due("BAD ahead of NULL", BAD, x.copy(-1, 0, 0, 0, 1));
            due("NULL ahead of INDEX", NULL, x.copy(0, -1, 1, 0, 1));
            x.sheet(0, 0, 3);
            due("NULL (to) ahead of INDEX", NULL, x.copy(0, 0, 1, 0, -1));
            due("NULL (from) ahead of INDEX", NULL, x.copy(1, 0, 0, 4, 1));
            x.sheet(1, 1, 3);
            due("CAST ahead of INDEX (n)", CAST, x.copy(0, 0, 1, 0, -1));
            due("CAST ahead of INDEX (i)", CAST, x.copy(0, 4, 1, 0, 1));
            due("CAST ahead of INDEX (j)", CAST, x.copy(0, 0, 1, 4, 1));
            due("BAD ahead of INDEX", BAD, x.copy(0, 4, 4, 4, -1));
        });
        edge(36, "n items: none, all", x -> {
            x.sheet(0, 2, 40);
            x.sheet(1, 2, 40);
            due("none", 0, x.copy(0, 0, 1, 0, 0));
            due("all", 40, x.copy(0, 0, 1, 0, 40));
            due("one more", INDEX, x.copy(0, 0, 1, 0, 41));
            x.sheet(2, 2, 0);
            due("none of none", 0, x.copy(2, 0, 2, 0, 0));
            due("one of none", INDEX, x.copy(2, 0, 0, 0, 1));
            due("one to none", INDEX, x.copy(0, 0, 2, 0, 1));
        });
    }

    private static void copyFaults() {
        edge(36, "INDEX: i, j", x -> {
            x.sheet(0, 0, 5);
            x.sheet(1, 0, 7);
            for (int i : new int[] {-1, 4, 5, 6, MIN, MAX}) due("two from " + i, INDEX, x.copy(0, i, 1, 0, 2));
            for (int j : new int[] {-1, 6, 7, 8, MIN, MAX}) due("two to " + j, INDEX, x.copy(0, 0, 1, j, 2));
            due("the last two", 2, x.copy(0, 3, 1, 5, 2));
        });
        edge(36, "INDEX: of none, too", x -> {
            x.sheet(0, 0, 5);
            x.sheet(1, 0, 7);
            due("behind the last", 0, x.copy(0, 5, 1, 7, 0));
            for (int i : new int[] {-1, 6, MIN, MAX}) due("none from " + i, INDEX, x.copy(0, i, 1, 0, 0));
            for (int j : new int[] {-1, 8, MIN, MAX}) due("none to " + j, INDEX, x.copy(0, 0, 1, j, 0));
        });
        edge(36, "INDEX (n below 0, too)", x -> {
            x.sheet(0, 0, 5);
            x.sheet(1, 0, 7);
            for (int n : new int[] {-1, -5, MIN}) {
                due("n " + n, INDEX, x.copy(0, 0, 1, 0, n));
                due("n " + n + " from 5", INDEX, x.copy(0, 5, 1, 7, n));
            }
        });
        edge(36, "INDEX: sums that wrap around", x -> {
            x.sheet(0, 0, 5);
            x.sheet(1, 0, 5);
            due("i and n", INDEX, x.copy(0, MAX, 1, 0, MAX));
            due("i and n", INDEX, x.copy(0, 1, 1, 0, MAX));
            due("i and n are 0", INDEX, x.copy(0, MIN, 1, 0, MIN));
            due("j and n are 0", INDEX, x.copy(0, 0, 1, MIN, MIN));
            due("j and n", INDEX, x.copy(0, 0, 1, MAX, 1));
            due("-1 and 1 are 0", INDEX, x.copy(0, -1, 1, 0, 1));
            due("5 and -5 are 0", INDEX, x.copy(0, 5, 1, 5, -5));
        });
        edge(36, "INDEX: n is more than one of them has", x -> {
            x.sheet(0, 0, 5);
            x.sheet(1, 0, 7);
            due("six of five", INDEX, x.copy(0, 0, 1, 0, 6));
            due("six into five", INDEX, x.copy(1, 0, 0, 0, 6));
            due("five into five", 5, x.copy(1, 2, 0, 0, 5));
        });
        edge(36, "INDEX changes nothing: none is copied", x -> {
            fill(x, 0, 0, 21, 22, 23, 24, 25, 26, 27, 28, 29, 30, 31, 32);
            fill(x, 1, 0, 1, 2, 3, 4, 5, 6, 7, 8, 9, 10, 11, 12);
            due("from beyond", INDEX, x.copy(0, 6, 1, 0, 7));
            due("to beyond", INDEX, x.copy(0, 0, 1, 6, 7));
            dueItems(x, 1, 0, 1, 2, 3, 4, 5, 6, 7, 8, 9, 10, 11, 12);
        });
    }

    private static void copyOverlaps() {
        edge(36, "as if all were taken ahead: up", x -> {
            fill(x, 0, 1, 1, 2, 3, 4, 5, 6, 7, 8, 9, 10, 11, 12);
            due("copy", 11, x.copy(0, 0, 0, 1, 11));
            dueItems(x, 0, 1, 1, 1, 2, 3, 4, 5, 6, 7, 8, 9, 10, 11);
        });
        edge(36, "as if all were taken ahead: down", x -> {
            fill(x, 0, 1, 1, 2, 3, 4, 5, 6, 7, 8, 9, 10, 11, 12);
            due("copy", 11, x.copy(0, 1, 0, 0, 11));
            dueItems(x, 0, 1, 2, 3, 4, 5, 6, 7, 8, 9, 10, 11, 12, 12);
        });
        edge(36, "or the same: onto itself", x -> {
            fill(x, 0, 1, 1, 2, 3, 4, 5, 6, 7, 8, 9, 10, 11, 12);
            due("copy", 12, x.copy(0, 0, 0, 0, 12));
            dueItems(x, 0, 1, 1, 2, 3, 4, 5, 6, 7, 8, 9, 10, 11, 12);
        });
        edge(36, "come to another one: what is behind and ahead stays, and so does where they come from", x -> {
            fill(x, 0, 2, 21, 22, 23, 24, 25, 26, 27, 28, 29, 30, 31, 32);
            fill(x, 1, 2, 1, 2, 3, 4, 5, 6, 7, 8, 9, 10, 11, 12);
            due("copy", 3, x.copy(0, 4, 1, 6, 3));
            dueItems(x, 1, 2, 1, 2, 3, 4, 5, 6, 25, 26, 27, 10, 11, 12);
            dueItems(x, 0, 2, 21, 22, 23, 24, 25, 26, 27, 28, 29, 30, 31, 32);
        });
        edge(36, "two SHEETS are two rows", x -> {
            fill(x, 0, 2, 1, 2, 3, 4, 5, 6, 7, 8, 9, 10, 11, 12);
            x.sheet(1, 2, 12);
            x.copy(0, 0, 1, 0, 12);
            x.item(0, 2, 0, 99);
            dueItems(x, 1, 2, 1, 2, 3, 4, 5, 6, 7, 8, 9, 10, 11, 12);
        });
    }
}
