/** Promises 15 to 24 (lines): each sentence that names a boundary has a test of its own. */
public final class LineCasterEdgesOfLines extends Checks {
    private static final int LAST = 99999;

    public static void main(String[] args) {
        key();
        keyComes();
        band();
        ticks();
        ticksFull();
        line();
        state();
        thick();
        castRefused();
        castFull();
        castRow();
        castFalls();
        castJams();
        clear();
        slug();
        count();
        dueEdges(15, 24);
        end("the edges of lines hold");
    }

    // ---- lines as the edges want them

    /** 24 moulds, 8 each of a, b and c, whose keys all reach alike. */
    private static void addThreeChannels(LineCaster x) {
        for (int m = 0; m < 24; m++) x.mould(m / 8, 0);
        levelReaches(x);
    }

    private static void letGo(LineCaster x, int from, int to) {
        for (int m = from; m < to; m++) due("key(" + m / 8 + ")", x.count(8) + 2, x.key(m / 8));
    }

    /** A line of one a (mould 0 at first), as wide as the measure, which has come. */
    private static void bringOne(LineCaster x) {
        x.set(2, 10);
        x.key(0);
        x.ticks(2);
    }

    private static void bringBands(LineCaster x, int n) {
        for (int b = 0; b < n; b++) x.band();
        x.ticks(2);
    }

    // ---- keys, bands, ticks

    private static void key() {
        edge(15, "BAD", x -> {
            for (int m = 0; m < 12; m++) x.mould(m, 0);
            for (int p : new int[] {-1, 12, 13, MIN, MAX}) due("key(" + p + ")", BAD, x.key(p));
            due("none was let go", 12, x.count(1));
            due("the first place", 2, x.key(0));
            due("the last place", 13, x.key(11));
        });
        edge(15, "NONE: the CHANNEL is dry", x -> {
            for (int p = 0; p < 12; p++) due("at first", NONE, x.key(p));
            addMany(x, 5, 2);
            due("one", 7, x.key(5));
            due("two", 7, x.key(5));
            due("dry", NONE, x.key(5));
            due("the next is dry", NONE, x.key(6));
            x.ticks(7);
            due("those in the line are not in it", NONE, x.key(5));
            x.mould(5, 0);
            due("a new one", 14, x.key(5));
        });
        edge(15, "NONE: those in THE BOX are not in it", x -> {
            addMany(x, 0, 9);
            for (int m = 0; m < 8; m++) x.key(0);
            due("the ninth lies in the box", NONE, x.key(0));
            x.home(8);
            due("till it is put home", 2, x.key(0));
        });
        edge(15, "FULL: 24 things (what is still falling counts)", x -> {
            addThreeChannels(x);
            x.mould(11, 0);
            letGo(x, 0, 24);
            due("24 are falling", FULL, x.key(11));
            x.ticks(2);
            due("24 have come", FULL, x.key(11));
            due("it is let go by none", 11, x.told(24, 2));
            x.clear();
            due("none", 4, x.key(11));
        });
        edge(15, "FULL: 24 things, some falling", x -> {
            addThreeChannels(x);
            x.mould(11, 0);
            letGo(x, 0, 12);
            x.ticks(2);
            letGo(x, 12, 23);
            due("23 things: one more", 4, x.key(11));
            due("24 things", FULL, x.key(2));
            due("its channel stays", 1, x.channel(2, -1));
        });
        edge(15, "FULL: BANDS are things too", x -> {
            addThreeChannels(x);
            letGo(x, 0, 12);
            for (int b = 0; b < 11; b++) x.band();
            due("the 24th", 2, x.key(2));
            due("24 things", FULL, x.key(2));
        });
        edge(15, "BAD; NONE; FULL: of several the first", x -> {
            addThreeChannels(x);
            letGo(x, 0, 24);
            due("BAD ahead of FULL", BAD, x.key(12));
            due("BAD ahead of FULL", BAD, x.key(-1));
            due("NONE ahead of FULL", NONE, x.key(0));
            x.mould(0, 0);
            due("FULL", FULL, x.key(0));
        });
    }

    private static void keyComes() {
        edge(15, "at the TICK NOW and 2 and the PLACE's REACH", x -> {
            addMoulds(x, 0, 11);
            x.place(11, 1, 20);
            x.ticks(10);
            due("reach 0", 12, x.key(0));
            due("reach 20", 32, x.key(11));
            x.ticks(1);
            dueLine(x);
            x.ticks(1);
            dueLine(x, 0);
            x.ticks(19);
            dueLine(x, 0);
            x.ticks(1);
            dueLine(x, 0, 1);
        });
        edge(15, "REACH as it is when it is let go", x -> {
            x.mould(4, 0);
            due("reach 4", 6, x.key(4));
            x.place(4, 1, 0);
            x.ticks(5);
            dueLine(x);
            x.ticks(1);
            dueLine(x, 0);
        });
        edge(15, "the first MOULD of that CHANNEL", x -> {
            addMany(x, 3, 8);
            for (int m = 0; m < 8; m++) {
                due("it is the first", m, x.channel(3, 0));
                due("key(3)", 5, x.key(3));
                due("it is let go", 13, x.told(m, 2));
            }
        });
        edge(15, "the TICK at which the MOULD comes: above 99999", x -> {
            addMoulds(x, 0, 11);
            waitUntil(x, LAST - 2);
            due("at the last tick", LAST, x.key(0));
            due("never", LAST + 11, x.key(11));
            x.ticks(2);
            dueLine(x, 0);
            due("falls for ever", 13, x.told(1, 2));
            due("clear()", NOT, x.clear());
        });
    }

    private static void band() {
        edge(16, "NONE: none is free (of 12; those in THE LINE are not free)", x -> {
            for (int b = 0; b < 12; b++) due("band()", 2, x.band());
            due("12 are falling", NONE, x.band());
            x.ticks(2);
            due("12 are in the line", NONE, x.band());
            due("count(6)", 0, x.count(6));
        });
        edge(16, "BANDS are free again: cleared, CAST", x -> {
            bringBands(x, 12);
            x.clear();
            due("cleared", 4, x.band());
            for (int b = 1; b < 12; b++) x.band();
            x.ticks(2);
            due("cast()", 0, x.cast());
            due("cast", 6, x.band());
            due("count(6)", 11, x.count(6));
        });
        edge(16, "FULL", x -> {
            addThreeChannels(x);
            letGo(x, 0, 23);
            due("the 24th thing", 2, x.band());
            due("falling", FULL, x.band());
            x.ticks(2);
            due("come", FULL, x.band());
            due("free ones stay", 11, x.count(6));
        });
        edge(16, "NONE; FULL: of several the first", x -> {
            addThreeChannels(x);
            bringBands(x, 12);
            letGo(x, 0, 12);
            due("NONE ahead of FULL", NONE, x.band());
            due("FULL for a key", FULL, x.key(2));
        });
        edge(16, "let go likewise, with REACH 0", x -> {
            x.place(0, 1, 20);
            x.ticks(7);
            due("band()", 9, x.band());
            x.ticks(1);
            dueLine(x);
            x.ticks(1);
            dueLine(x, 100);
        });
        edge(16, "at the last TICK", x -> {
            waitUntil(x, LAST - 1);
            due("band()", LAST + 1, x.band());
            x.ticks(1);
            dueLine(x);
            due("it falls for ever", NOT, x.state());
        });
    }

    private static void ticks() {
        edge(17, "n TICKS (1 .. 300)", x -> {
            for (int n : new int[] {0, -1, 301, MIN, MAX}) due("ticks(" + n + ")", BAD, x.ticks(n));
            due("now", 0, x.count(8));
            due("ticks(1)", 1, x.ticks(1));
            due("ticks(300)", 301, x.ticks(300));
            due("now", 301, x.count(8));
        });
        edge(17, "each TICK goes on: nothing is passed over", x -> {
            for (int k = 0; k < 12; k++) x.mould(k, 0);
            for (int k = 11; k >= 0; k--) x.key(k);
            x.ticks(300);
            dueLine(x, 0, 1, 2, 3, 4, 5, 6, 7, 8, 9, 10, 11);
            x.set(2, 120);
            x.cast();
            x.ticks(300);
            for (int k = 0; k < 12; k++) dueChannel(x, k, k);
        });
        edge(17, "What comes at one TICK comes in the order in which it was let go", x -> {
            addMoulds(x, 3, 2, 1, 0);
            x.key(3);
            x.ticks(1);
            x.key(2);
            x.ticks(1);
            x.key(1);
            x.ticks(1);
            x.band();
            x.key(0);
            x.ticks(1);
            dueLine(x);
            x.ticks(1);
            dueLine(x, 0, 1, 2, 100, 3);
        });
        edge(17, "NOW is one more, then what is due NOW comes", x -> {
            x.mould(0, 0);
            x.key(0);
            x.ticks(1);
            due("a tick ahead", 0, x.line(-1));
            x.ticks(1);
            due("at its tick", 1, x.line(-1));
        });
        edge(17, "then what is due on THE BAR FALLS: a KEY can let it go at that TICK", x -> {
            x.mould(0, 0);
            bringOne(x);
            x.cast();
            x.ticks(19);
            due("a tick ahead", NONE, x.key(0));
            x.ticks(1);
            due("at its tick", 24, x.key(0));
        });
    }

    private static void ticksFull() {
        edge(17, "FULL: NOW would be above 99999", x -> {
            waitUntil(x, LAST - 299);
            due("300 more", FULL, x.ticks(300));
            due("now", LAST - 299, x.count(8));
            due("299 more", LAST, x.ticks(299));
            due("1 more", FULL, x.ticks(1));
            due("300 more", FULL, x.ticks(300));
            due("now", LAST, x.count(8));
        });
        edge(17, "BAD; FULL: of several the first", x -> {
            waitUntil(x, LAST);
            for (int n : new int[] {0, 301, -1, MIN, MAX}) due("ticks(" + n + ")", BAD, x.ticks(n));
        });
        edge(17, "FULL changes nothing: no TICK goes on", x -> {
            x.mould(0, 0);
            waitUntil(x, LAST - 5);
            due("key(0)", LAST - 3, x.key(0));
            due("6 more", FULL, x.ticks(6));
            dueLine(x);
            due("5 more", LAST, x.ticks(5));
            dueLine(x, 0);
        });
        edge(17, "the last TICK", x -> {
            waitUntil(x, LAST - 1);
            due("ticks(2)", FULL, x.ticks(2));
            due("ticks(1)", LAST, x.ticks(1));
        });
    }

    // ---- the line

    private static void line() {
        edge(18, "BAD: also i below -1", x -> {
            for (int i : new int[] {-2, -3, MIN}) due("of an empty one: line(" + i + ")", BAD, x.line(i));
            bringBands(x, 1);
            for (int i : new int[] {-2, -3, MIN}) due("line(" + i + ")", BAD, x.line(i));
        });
        edge(18, "how many came (i -1)", x -> {
            x.mould(11, 0);
            due("none", 0, x.line(-1));
            x.key(11);
            x.band();
            due("what falls has not come", 0, x.line(-1));
            x.ticks(2);
            due("one came", 1, x.line(-1));
            x.ticks(11);
            due("both came", 2, x.line(-1));
        });
        edge(18, "NONE", x -> {
            for (int i : new int[] {0, 1, 23, 24, MAX}) due("of an empty one: line(" + i + ")", NONE, x.line(i));
            x.mould(11, 0);
            x.key(11);
            bringBands(x, 1);
            due("the one that came", 100, x.line(0));
            for (int i : new int[] {1, 23, 24, MAX}) due("line(" + i + ")", NONE, x.line(i));
        });
        edge(18, "up to 24 things", x -> {
            addThreeChannels(x);
            letGo(x, 0, 24);
            x.ticks(2);
            due("line(-1)", 24, x.line(-1));
            for (int i = 0; i < 24; i++) due("line(" + i + ")", i, x.line(i));
            due("line(24)", NONE, x.line(24));
        });
        edge(18, "a MOULD, or 100: a BAND", x -> {
            for (int m = 0; m < 60; m++) x.mould(m / 8, 0);
            x.place(7, 1, 0);
            for (int m = 0; m < 4; m++) x.key(7);
            bringBands(x, 1);
            dueLine(x, 56, 57, 58, 59, 100);
        });
    }

    private static void state() {
        edge(19, "NOT: something is falling", x -> {
            x.mould(11, 0);
            x.key(11);
            due("into an empty line, ahead of NONE", NOT, x.state());
            bringBands(x, 1);
            due("one came, one falls", NOT, x.state());
            x.ticks(10);
            due("a tick ahead", NOT, x.state());
            x.ticks(1);
            due("all came", 1, x.state());
        });
        edge(19, "NOT: a BAND is falling", x -> {
            x.mould(0, 0);
            bringOne(x);
            due("tight", 0, x.state());
            x.band();
            due("falling", NOT, x.state());
        });
        edge(19, "NONE: it is empty", x -> {
            due("at first", NONE, x.state());
            bringBands(x, 1);
            x.clear();
            due("cleared", NONE, x.state());
            bringBands(x, 1);
            x.set(2, 10);
            x.cast();
            due("cast", NONE, x.state());
        });
        edge(19, "SHORT, if W and b THICK are below MEASURE", x -> {
            addMoulds(x, 0, 0);
            x.letter(0, 0, 7);
            x.key(0);
            x.key(0);
            bringBands(x, 3);
            x.set(2, 14 + 3 * 12);
            due("as much", 0, x.state());
            x.set(2, 14 + 3 * 12 + 1);
            due("below by 1", 1, x.state());
            x.set(1, 13);
            due("thicker", 0, x.state());
        });
        edge(19, "LONG, if W and b THIN are above", x -> {
            addMoulds(x, 0, 0);
            x.letter(0, 0, 7);
            x.key(0);
            x.key(0);
            bringBands(x, 3);
            x.set(2, 14 + 3 * 4);
            due("as much", 0, x.state());
            x.set(2, 14 + 3 * 4 - 1);
            due("above by 1", 2, x.state());
            x.set(0, 3);
            due("thinner", 0, x.state());
        });
        edge(19, "without BANDS", x -> {
            x.mould(0, 0);
            bringOne(x);
            due("W is MEASURE", 0, x.state());
            x.set(2, 11);
            due("below by 1", 1, x.state());
            x.letter(0, 0, 12);
            due("above by 1", 2, x.state());
        });
        edge(19, "without MOULDS", x -> {
            bringBands(x, 1);
            x.set(2, 12);
            due("as thick", 0, x.state());
            x.set(2, 13);
            due("short", 1, x.state());
            x.set(0, 11);
            x.set(2, 10);
            due("long", 2, x.state());
        });
        edge(19, "the widest LINE", x -> {
            addThreeChannels(x);
            for (int k = 0; k < 3; k++) x.letter(k, 0, 40);
            x.set(2, 400);
            letGo(x, 0, 10);
            x.ticks(2);
            due("400", 0, x.state());
            letGo(x, 10, 24);
            x.ticks(2);
            due("960", 2, x.state());
        });
    }

    private static void thick() {
        edge(20, "BAD: there is no such", x -> {
            due("in an empty line", BAD, x.thick(0));
            x.mould(0, 0);
            bringOne(x);
            due("in a tight line without bands", BAD, x.thick(0));
            bringBands(x, 2);
            x.set(2, 10 + 16);
            due("the last", 8, x.thick(1));
            for (int i : new int[] {-1, 2, 12, MIN, MAX}) due("thick(" + i + ")", BAD, x.thick(i));
        });
        edge(20, "NOT: something is falling", x -> {
            x.mould(0, 0);
            bringBands(x, 1);
            x.set(2, 10);
            due("tight", 10, x.thick(0));
            x.key(0);
            due("falling", NOT, x.thick(0));
            x.ticks(1);
            due("still", NOT, x.thick(0));
        });
        edge(20, "NOT: it is not TIGHT", x -> {
            bringBands(x, 3);
            x.set(2, 36);
            due("as thick as can be", 12, x.thick(2));
            x.set(2, 37);
            due("short", NOT, x.thick(2));
            x.set(2, 12);
            due("as thin as can be", 4, x.thick(0));
            x.set(2, 11);
            due("long", NOT, x.thick(0));
        });
        edge(20, "BAD; NOT: of several the first", x -> {
            bringBands(x, 1);
            due("short", NOT, x.thick(0));
            due("BAD ahead of short", BAD, x.thick(1));
            due("BAD ahead of short", BAD, x.thick(-1));
            x.mould(0, 0);
            x.key(0);
            due("BAD ahead of falling", BAD, x.thick(1));
        });
        edge(20, "each as much as the others, what is left over one each to the first ones", x -> {
            bringBands(x, 5);
            for (int room = 20; room <= 60; room++) {
                x.set(2, room);
                for (int i = 0; i < 5; i++) due("of " + room + " band " + i, (room + 4 - i) / 5, x.thick(i));
            }
        });
        edge(20, "MEASURE less W in all", x -> {
            addMoulds(x, 0, 1);
            levelReaches(x);
            x.letter(1, 0, 3);
            x.band();
            x.key(0);
            x.band();
            x.key(1);
            bringBands(x, 1);
            x.set(2, 13 + 20);
            due("first", 7, x.thick(0));
            due("second", 7, x.thick(1));
            due("third", 6, x.thick(2));
        });
        edge(20, "THIN no more than THICK: as much", x -> {
            x.set(0, 12);
            bringBands(x, 12);
            x.set(2, 144);
            for (int i = 0; i < 12; i++) due("thick(" + i + ")", 12, x.thick(i));
            due("a thirteenth", BAD, x.thick(12));
            x.set(2, 143);
            due("long by 1", NOT, x.thick(0));
            x.set(2, 145);
            due("short by 1", NOT, x.thick(0));
        });
    }

    // ---- casting

    private static void castRefused() {
        edge(21, "NOT: something is falling", x -> {
            x.mould(0, 0);
            bringOne(x);
            x.band();
            due("cast()", NOT, x.cast());
            due("it stays", 1, x.line(-1));
            due("no slug", 0, x.count(5));
        });
        edge(21, "NOT: something is falling, ahead of NONE: it is empty", x -> {
            x.band();
            due("cast()", NOT, x.cast());
        });
        edge(21, "NONE: it is empty", x -> {
            due("at first", NONE, x.cast());
            bringBands(x, 1);
            x.clear();
            due("cleared", NONE, x.cast());
        });
        edge(21, "NOT: it is not TIGHT", x -> {
            bringBands(x, 1);
            x.set(2, 13);
            due("short by 1", NOT, x.cast());
            x.set(1, 13);
            x.set(0, 13);
            x.set(2, 12);
            due("long by 1", NOT, x.cast());
            due("it stays", 1, x.line(-1));
            due("its band is not free", 11, x.count(6));
            x.set(2, 13);
            due("tight", 0, x.cast());
        });
    }

    private static void castFull() {
        edge(21, "SLUGS 0 .. 39 (then none is CAST: FULL)", x -> {
            x.set(2, 10);
            for (int s = 0; s < 40; s++) {
                bringBands(x, 1);
                due("cast()", s, x.cast());
            }
            bringBands(x, 1);
            due("the 41st", FULL, x.cast());
            due("again", FULL, x.cast());
            dueLine(x, 100);
            due("its band is not free", 11, x.count(6));
            due("slugs", 40, x.count(5));
            due("it can be cleared", 0, x.clear());
        });
        edge(21, "NOT; NONE; NOT; FULL: of several the first", x -> {
            x.set(2, 10);
            for (int s = 0; s < 40; s++) {
                bringBands(x, 1);
                x.cast();
            }
            due("NONE ahead of FULL", NONE, x.cast());
            x.band();
            due("NOT (falling) ahead of FULL", NOT, x.cast());
            x.ticks(2);
            x.set(2, 13);
            due("NOT (short) ahead of FULL", NOT, x.cast());
            x.set(2, 10);
            due("FULL", FULL, x.cast());
        });
        edge(21, "FULL: its MOULDS stay", x -> {
            x.mould(0, 0);
            x.set(2, 10);
            for (int s = 0; s < 40; s++) {
                bringBands(x, 1);
                x.cast();
            }
            x.key(0);
            x.ticks(2);
            due("cast()", FULL, x.cast());
            due("in the line", 13, x.told(0, 2));
            due("none on the bar", 0, x.count(4));
        });
    }

    private static void castRow() {
        edge(21, "a SLUG: the row of its things (letters, blanks)", x -> {
            for (int k = 0; k < 12; k++) x.mould(k, 0);
            levelReaches(x);
            x.band();
            for (int k = 11; k >= 0; k--) x.key(k);
            bringBands(x, 1);
            x.set(2, 130);
            due("cast()", 0, x.cast());
            dueSlug(x, 0, " lkjihgfedcba ");
            dueLine(x);
        });
        edge(21, "BANDS are free again", x -> {
            bringBands(x, 12);
            due("cast()", 0, x.cast());
            due("count(6)", 12, x.count(6));
            due("nothing is on the bar", 0, x.count(4));
        });
        edge(21, "a LINE of 24 things", x -> {
            addThreeChannels(x);
            letGo(x, 0, 24);
            x.ticks(2);
            x.set(2, 240);
            due("cast()", 0, x.cast());
            dueSlug(x, 0, "aaaaaaaabbbbbbbbcccccccc");
            due("on the bar", 24, x.count(4));
            x.ticks(20 + 23 + 2);
            for (int p = 0; p < 3; p++) dueChannel(x, p, 8 * p, 8 * p + 1, 8 * p + 2, 8 * p + 3, 8 * p + 4, 8 * p + 5, 8 * p + 6, 8 * p + 7);
        });
        edge(21, "a worn MOULD is cast as its LETTER", x -> {
            x.mould(6, 7);
            x.set(2, 10);
            x.key(6);
            x.ticks(8);
            x.cast();
            dueSlug(x, 0, "g");
        });
    }

    private static void castFalls() {
        edge(21, "CYCLE (1 .. 200) and i and that PLACE, together, TICKS from NOW", x -> {
            addMoulds(x, 0, 0);
            for (int cycle : new int[] {1, 200}) {
                x.set(3, cycle);
                bringOne(x);
                x.cast();
                if (cycle > 1) x.ticks(cycle - 1);
                due("a tick ahead", 1, x.count(4));
                x.ticks(1);
                due("at its tick", 0, x.count(4));
            }
        });
        edge(21, "the i-th one (0 ..): BANDS do not count", x -> {
            addMoulds(x, 0, 0);
            levelReaches(x);
            x.set(3, 1);
            x.band();
            x.key(0);
            x.band();
            x.key(0);
            x.ticks(2);
            x.set(2, 30);
            x.cast();
            x.ticks(1);
            dueChannel(x, 0, 0);
            x.ticks(1);
            dueChannel(x, 0, 0, 1);
        });
        edge(21, "that PLACE: 11, the last", x -> {
            x.mould(11, 0);
            x.place(11, 1, 0);
            x.set(2, 10);
            x.key(11);
            x.ticks(2);
            x.cast();
            x.ticks(30);
            due("a tick ahead", 14, x.told(0, 2));
            x.ticks(1);
            due("at its tick", 11, x.told(0, 2));
        });
        edge(21, "12: THE BOX", x -> {
            x.mould(11, 0);
            x.place(11, 1, 0);
            x.place(11, 0, 127);
            x.set(2, 10);
            x.key(11);
            x.ticks(2);
            x.cast();
            x.ticks(31);
            due("a tick ahead", 14, x.told(0, 2));
            x.ticks(1);
            due("at its tick", 12, x.told(0, 2));
            due("it did not jam", 0, x.count(7));
        });
        edge(21, "where RAILS let it as they are when it is CAST", x -> {
            x.mould(6, 0);
            x.place(6, 1, 0);
            x.set(2, 10);
            x.key(6);
            x.ticks(2);
            x.place(2, 0, 0);
            x.cast();
            x.place(2, 0, 127);
            x.place(0, 0, 0);
            x.set(3, 1);
            x.ticks(21);
            due("a tick ahead", 14, x.told(0, 2));
            x.ticks(1);
            due("where they let it then", 2, x.told(0, 2));
        });
        edge(21, "worn ones too soon", x -> {
            x.mould(6, 4);
            x.place(6, 1, 0);
            x.set(2, 10);
            x.key(6);
            x.ticks(2);
            due("one more tooth is lost in the line", 1, x.wear(0, 2));
            x.cast();
            x.ticks(20);
            due("g with a's teeth", 0, x.told(0, 2));
            dueChannel(x, 0, 0);
        });
        edge(21, "due above the last TICK", x -> {
            addMoulds(x, 0, 0);
            x.set(2, 10);
            waitUntil(x, LAST - 22);
            x.key(0);
            x.ticks(2);
            x.cast();
            x.key(0);
            x.ticks(2);
            x.cast();
            x.ticks(18);
            due("the last tick", LAST, x.count(8));
            due("the first fell at it", 0, x.told(0, 2));
            due("the second never falls", 14, x.told(1, 2));
        });
    }

    private static void castJams() {
        edge(21, "into a CHANNEL that holds 8 then it does not: it JAMS there and lies in THE BOX", x -> {
            addMany(x, 0, 9);
            bringOne(x);
            due("home(8)", 8, x.home(8));
            x.cast();
            x.ticks(20);
            due("where", 12, x.told(0, 2));
            due("jammed", 1, x.count(7));
            dueChannel(x, 0, 1, 2, 3, 4, 5, 6, 7, 8);
        });
        edge(21, "that holds 8 then: 7 is room", x -> {
            addMany(x, 0, 9);
            bringOne(x);
            x.home(8);
            x.cast();
            x.ticks(19);
            due("one is let go ahead of it", 23, x.key(0));
            x.ticks(1);
            due("where", 0, x.told(0, 2));
            due("jammed", 0, x.count(7));
            dueChannel(x, 0, 2, 3, 4, 5, 6, 7, 8, 0);
        });
        edge(21, "that holds 8 then: filled while it was on THE BAR", x -> {
            addMany(x, 0, 9);
            bringOne(x);
            x.cast();
            x.ticks(19);
            due("home(8)", 8, x.home(8));
            x.ticks(1);
            due("jammed", 1, x.count(7));
            due("where", 12, x.told(0, 2));
        });
        edge(21, "it JAMS in another's CHANNEL too", x -> {
            x.mould(1, 2);
            addMany(x, 0, 8);
            x.set(2, 10);
            x.key(1);
            x.ticks(3);
            x.cast();
            x.ticks(20);
            due("jammed", 1, x.count(7));
            due("where", 12, x.told(0, 2));
            due("home is another channel", 1, x.home(0));
        });
        edge(21, "Of those that FALL at one TICK the one first CAST is first", x -> {
            addMany(x, 0, 2);
            x.set(3, 12);
            bringOne(x);
            x.cast();
            x.set(3, 10);
            bringOne(x);
            x.cast();
            x.ticks(9);
            dueChannel(x, 0);
            x.ticks(1);
            dueChannel(x, 0, 0, 1);
        });
        edge(21, "the one first CAST is first: it has the last room", x -> {
            addMany(x, 0, 9);
            x.set(3, 12);
            bringOne(x);
            x.cast();
            x.set(3, 10);
            bringOne(x);
            x.home(8);
            x.cast();
            x.ticks(10);
            due("the first", 0, x.told(0, 2));
            due("the second", 12, x.told(1, 2));
            due("jammed", 1, x.count(7));
        });
        edge(21, "of one SLUG the first in it", x -> {
            addMoulds(x, 1, 0);
            levelReaches(x);
            x.set(2, 20);
            x.key(1);
            x.key(0);
            x.ticks(2);
            x.cast();
            x.ticks(20);
            due("both are on the bar", 2, x.count(4));
            x.ticks(1);
            due("both fall at one tick", 0, x.count(4));
            dueChannel(x, 1, 0);
            dueChannel(x, 0, 1);
        });
    }

    private static void clear() {
        edge(22, "NOT: something is falling", x -> {
            addMoulds(x, 0, 11);
            x.key(0);
            due("into an empty line", NOT, x.clear());
            x.ticks(2);
            x.band();
            due("a band", NOT, x.clear());
            x.key(11);
            x.ticks(12);
            due("a tick ahead", NOT, x.clear());
            dueLine(x, 0, 100);
            x.ticks(1);
            due("all came", 2, x.clear());
        });
        edge(22, "how many MOULDS: of an empty LINE", x -> {
            due("clear()", 0, x.clear());
            due("again", 0, x.clear());
        });
        edge(22, "how many MOULDS: of BANDS alone", x -> {
            bringBands(x, 12);
            due("clear()", 0, x.clear());
            due("BANDS are free", 12, x.count(6));
            dueLine(x);
        });
        edge(22, "its MOULDS lie in THE BOX", x -> {
            addThreeChannels(x);
            letGo(x, 0, 24);
            x.ticks(2);
            due("clear()", 24, x.clear());
            due("in the box", 24, x.count(2));
            due("in channels", 0, x.count(1));
            for (int m = 0; m < 24; m++) due("where", 12, x.told(m, 2));
            due("it is no slug", 0, x.count(5));
            due("none jammed", 0, x.count(7));
        });
        edge(22, "what is on THE BAR stays there", x -> {
            addMany(x, 0, 2);
            bringOne(x);
            x.cast();
            bringOne(x);
            due("clear()", 1, x.clear());
            due("on the bar", 14, x.told(0, 2));
            due("in the box", 12, x.told(1, 2));
        });
    }

    private static void slug() {
        edge(23, "BAD: there is no such SLUG", x -> {
            for (int s : new int[] {-1, 0, 39, 40, MIN, MAX}) {
                due("slug(" + s + ", -1)", BAD, x.slug(s, -1));
                due("slug(" + s + ", 0)", BAD, x.slug(s, 0));
            }
            x.mould(0, 0);
            bringOne(x);
            x.cast();
            due("slug(0, -1)", 1, x.slug(0, -1));
            due("slug(1, -1)", BAD, x.slug(1, -1));
            due("slug(-1, -1)", BAD, x.slug(-1, -1));
        });
        edge(23, "BAD: also i below -1, beyond", x -> {
            addMany(x, 0, 2);
            bringOne(x);
            x.cast();
            x.key(0);
            bringBands(x, 1);
            x.set(2, 20);
            x.cast();
            for (int i : new int[] {-2, 1, 2, 23, 24, MIN, MAX}) due("slug(0, " + i + ")", BAD, x.slug(0, i));
            for (int i : new int[] {-2, 2, 3, 23, 24, MIN, MAX}) due("slug(1, " + i + ")", BAD, x.slug(1, i));
            dueSlug(x, 0, "a");
            dueSlug(x, 1, "a ");
        });
        edge(23, "beyond 24", x -> {
            addThreeChannels(x);
            letGo(x, 0, 24);
            x.ticks(2);
            x.set(2, 240);
            x.cast();
            due("the last", 'c', x.slug(0, 23));
            due("beyond", BAD, x.slug(0, 24));
        });
        edge(23, "SLUGS 0 .. 39", x -> {
            x.set(2, 10);
            for (int s = 0; s < 40; s++) {
                due("not yet", BAD, x.slug(s, -1));
                bringBands(x, s == 39 ? 2 : 1);
                x.cast();
            }
            dueSlug(x, 0, " ");
            dueSlug(x, 38, " ");
            dueSlug(x, 39, "  ");
            due("slug(40, -1)", BAD, x.slug(40, -1));
        });
        edge(23, "a .. l, a blank", x -> {
            addMoulds(x, 0, 11);
            levelReaches(x);
            x.key(0);
            x.key(11);
            bringBands(x, 1);
            x.set(2, 30);
            x.cast();
            due("a", 97, x.slug(0, 0));
            due("l", 108, x.slug(0, 1));
            due("a blank", 32, x.slug(0, 2));
        });
    }

    private static void count() {
        edge(24, "BAD", x -> {
            for (int what : new int[] {-1, 9, 10, MIN, MAX}) due("count(" + what + ")", BAD, x.count(what));
        });
        edge(24, "0 MOULDS, 1 in CHANNELS, 2 in THE BOX: none, all", x -> {
            dueCounts(x, 0, 0, 0);
            for (int m = 0; m < 60; m++) x.mould(m % 12, 0);
            dueCounts(x, 60, 60, 0);
        });
        edge(24, "3 falling, in THE LINE: MOULDS, no BANDS", x -> {
            addThreeChannels(x);
            letGo(x, 0, 12);
            bringBands(x, 1);
            due("come", 12, x.count(3));
            letGo(x, 12, 23);
            due("come and falling", 23, x.count(3));
            due("in channels", 1, x.count(1));
        });
        edge(24, "4 on THE BAR: all 60", x -> {
            for (int m = 0; m < 60; m++) x.mould(m % 12, 0);
            levelReaches(x);
            x.set(2, 200);
            x.set(3, 200);
            for (int m = 0; m < 60; m++) {
                x.key(m % 12);
                if (m % 20 == 19) {
                    x.ticks(2);
                    x.cast();
                }
            }
            dueCounts(x, 60, 0, 0, 0, 60, 3, 12, 0, 6);
            x.ticks(300);
            dueCounts(x, 60, 60, 0, 0, 0, 3, 12, 0, 306);
        });
        edge(24, "6 free BANDS", x -> {
            for (int b = 12; b > 0; b--) {
                due("count(6)", b, x.count(6));
                x.band();
            }
            due("none", 0, x.count(6));
            x.ticks(2);
            due("none", 0, x.count(6));
            x.clear();
            due("all", 12, x.count(6));
        });
        edge(24, "7 JAMMED so far: put home, they have JAMMED still", x -> {
            addMany(x, 0, 10);
            bringOne(x);
            x.home(8);
            x.cast();
            x.ticks(20);
            due("one", 1, x.count(7));
            x.key(0);
            due("home(0)", 8, x.home(0));
            due("one still", 1, x.count(7));
            x.ticks(2);
            x.cast();
            x.ticks(20);
            due("two", 2, x.count(7));
            due("in the box", 2, x.count(2));
        });
        edge(24, "8 NOW: 0 .. 99999", x -> {
            due("at first", 0, x.count(8));
            waitUntil(x, LAST);
            due("at last", LAST, x.count(8));
        });
    }
}
