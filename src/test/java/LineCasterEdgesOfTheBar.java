/** Promises 1 to 14 (letters, the bar, moulds): each sentence that names a boundary has a test of its own. */
public final class LineCasterEdgesOfTheBar extends Checks {
    private static final int[] NO_LETTER = {-1, 12, MIN, MAX};
    private static final int[] NO_SHEET = {-1, 4, MIN, MAX};
    private static final int[] NO_LANE = {-1, 3, MIN, MAX};

    public static void main(String[] args) {
        newObject();
        letter();
        place();
        rails();
        railsOrder();
        set();
        falls();
        astray();
        order();
        lost();
        mould();
        told();
        wear();
        home();
        channel();
        dueEdges(1, 14);
        end("the edges of letters, the bar and moulds hold");
    }

    private static void newObject() {
        edge(1, "No MOULDS", x -> {
            due("count(0)", 0, x.count(0));
            due("told(0, 0)", BAD, x.told(0, 0));
            for (int p = 0; p < 12; p++) due("key(" + p + ")", NONE, x.key(p));
        });
        edge(1, "WIDTH .. 10 at first", x -> {
            for (int k = 0; k < 12; k++) due("letter(" + k + ", 0, 1)", 10, x.letter(k, 0, 1));
        });
        edge(1, "at first letter k's is k and 1", x -> {
            for (int k = 0; k < 12; k++) due("letter(" + k + ", 1, 1)", k + 1, x.letter(k, 1, 1));
        });
        edge(1, "at first all but those of TEETH of the letter with the PLACE's number", x -> {
            for (int p = 0; p < 12; p++) due("place(" + p + ", 0, 0)", 126 - p, x.place(p, 0, 0));
        });
        edge(1, "REACH .. at first the PLACE's number", x -> {
            for (int p = 0; p < 12; p++) due("place(" + p + ", 1, 0)", p, x.place(p, 1, 0));
        });
        edge(1, "SHEETS 0 .. 3 hold nothing (at first)", x -> {
            for (int s = 0; s < 4; s++) due("drop(" + s + ")", NULL, x.drop(s));
        });
        edge(1, "NOW is a TICK (.. 0 at first)", x -> due("count(8)", 0, x.count(8)));
        edge(1, "THIN 4, THICK 12 at first", x -> {
            due("set(0, 4)", 4, x.set(0, 4));
            due("set(1, 12)", 12, x.set(1, 12));
        });
        edge(1, "MEASURE is .. 100 at first", x -> due("set(2, 10)", 100, x.set(2, 10)));
        edge(1, "CYCLE (.. 20 at first)", x -> due("set(3, 1)", 20, x.set(3, 1)));
        edge(1, "nothing is in THE LINE, on THE BAR, on THE TAPE, CAST, JAMMED; all BANDS are free", x -> {
            dueCounts(x, 0, 0, 0, 0, 0, 0, 12, 0, 0);
            dueLine(x);
            due("slug(0, -1)", BAD, x.slug(0, -1));
            due("plays(1)", -20, x.plays(1));
        });
    }

    private static void letter() {
        edge(2, "LETTERS a .. l (0 .. 11)", x -> {
            due("the first", 10, x.letter(0, 0, 11));
            due("the last", 12, x.letter(11, 1, 13));
            for (int k : NO_LETTER) {
                due("width of " + k, BAD, x.letter(k, 0, 5));
                due("teeth of " + k, BAD, x.letter(k, 1, 5));
            }
        });
        edge(2, "a WIDTH (1 .. 40)", x -> {
            due("40", 10, x.letter(5, 0, 40));
            for (int v : new int[] {0, 41, -1, MIN, MAX}) due("width " + v, BAD, x.letter(5, 0, v));
            due("1", 40, x.letter(5, 0, 1));
            for (int v : new int[] {0, 41, -1, MIN, MAX}) due("width " + v, BAD, x.letter(5, 0, v));
            due("1 stays", 1, x.letter(5, 0, 2));
        });
        edge(2, "TEETH (.. 1 .. 127)", x -> {
            due("127", 6, x.letter(5, 1, 127));
            for (int v : new int[] {0, 128, -1, MIN, MAX, 256 + 5}) due("teeth " + v, BAD, x.letter(5, 1, v));
            due("1", 127, x.letter(5, 1, 1));
            for (int v : new int[] {0, 128, -1, MIN, MAX, 256 + 5}) due("teeth " + v, BAD, x.letter(5, 1, v));
            due("1 stays", 1, x.letter(5, 1, 2));
        });
        edge(2, "WIDTH (0), TEETH (1)", x -> {
            for (int what : new int[] {-1, 2, MIN, MAX}) due("what " + what, BAD, x.letter(5, what, 5));
            due("the width stays", 10, x.letter(5, 0, 10));
            due("the teeth stay", 6, x.letter(5, 1, 6));
        });
        edge(2, "what it was", x -> {
            due("width 7", 10, x.letter(5, 0, 7));
            due("width 7 again", 7, x.letter(5, 0, 7));
            due("the teeth are another thing", 6, x.letter(5, 1, 9));
            due("the width is another thing", 7, x.letter(5, 0, 8));
            due("the next letter", 10, x.letter(6, 0, 10));
        });
    }

    private static void place() {
        edge(3, "of a PLACE 0 .. 11", x -> {
            due("the first", 126, x.place(0, 0, 1));
            due("the last", 11, x.place(11, 1, 1));
            for (int p : NO_LETTER) {
                due("rails at " + p, BAD, x.place(p, 0, 5));
                due("reach of " + p, BAD, x.place(p, 1, 5));
            }
        });
        edge(3, "RAILS (.. 0 .. 127)", x -> {
            due("127", 121, x.place(5, 0, 127));
            for (int v : new int[] {128, -1, MIN, MAX}) due("rails " + v, BAD, x.place(5, 0, v));
            due("0", 127, x.place(5, 0, 0));
            for (int v : new int[] {128, -1, MIN, MAX}) due("rails " + v, BAD, x.place(5, 0, v));
            due("0 stays", 0, x.place(5, 0, 1));
        });
        edge(3, "REACH (0 .. 20)", x -> {
            due("20", 5, x.place(5, 1, 20));
            for (int v : new int[] {21, -1, MIN, MAX}) due("reach " + v, BAD, x.place(5, 1, v));
            due("0", 20, x.place(5, 1, 0));
            for (int v : new int[] {21, -1, MIN, MAX}) due("reach " + v, BAD, x.place(5, 1, v));
            due("0 stays", 0, x.place(5, 1, 1));
        });
        edge(3, "RAILS (0), REACH (1)", x -> {
            for (int what : new int[] {-1, 2, MIN, MAX}) due("what " + what, BAD, x.place(5, what, 5));
            due("the rails stay", 121, x.place(5, 0, 121));
            due("the reach stays", 5, x.place(5, 1, 5));
        });
        edge(3, "what it was", x -> {
            due("rails 7", 121, x.place(5, 0, 7));
            due("the reach is another thing", 5, x.place(5, 1, 9));
            due("rails 7 again", 7, x.place(5, 0, 7));
            due("the next place", 120, x.place(6, 0, 120));
            due("teeth stay", 6, x.letter(5, 1, 6));
        });
    }

    private static void rails() {
        for (int lane = 0; lane < 3; lane++) {
            int l = lane;
            edge(4, "RAILS of all PLACES: 12 (lane " + l + ")", x -> {
                fill(x, 3, l, 0, 127, 2, 3, 4, 5, 6, 7, 8, 9, 127, 0);
                due("rails", 12, x.rails(3, l, 0));
                int[] want = {0, 127, 2, 3, 4, 5, 6, 7, 8, 9, 127, 0};
                for (int p = 0; p < 12; p++) due("rails at " + p, want[p], x.place(p, 0, 1));
                due("the items stay", 12, x.rails(3, l, 0));
                due("as they were", 9, x.place(9, 0, 1));
            });
            edge(4, "INDEX (lane " + l + ")", x -> {
                x.sheet(0, l, 13);
                for (int i : new int[] {-1, 2, 12, 13, 40, MIN, MAX, MAX - 11}) due("from " + i, INDEX, x.rails(0, l, i));
                due("rails stay", 126, x.place(0, 0, 126));
                due("the last twelve", 12, x.rails(0, l, 1));
            });
            edge(4, "NOT: one is not 0 .. 127 (lane " + l + ")", x -> {
                x.sheet(0, l, 12);
                for (int i = 0; i < 12; i++) {
                    x.item(0, l, i, -1);
                    due("-1 at " + i, NOT, x.rails(0, l, 0));
                    x.item(0, l, i, 128);
                    due("128 at " + i, NOT, x.rails(0, l, 0));
                    x.item(0, l, i, 127);
                }
                for (int p = 0; p < 12; p++) due("rails stay at " + p, 126 - p, x.place(p, 0, 126 - p));
                due("all are 127", 12, x.rails(0, l, 0));
            });
        }
        edge(4, "an item that is not 0 .. 127 outside of the twelve", x -> {
            fill(x, 0, 1, -1, 0, 0, 0, 0, 0, 0, 0, 0, 0, 0, 0, 0, 128);
            due("from 1", 12, x.rails(0, 1, 1));
            due("from 0", NOT, x.rails(0, 1, 0));
            due("from 2", NOT, x.rails(0, 1, 2));
        });
        edge(4, "a row of 40: from 28 on", x -> {
            x.sheet(0, 2, 40);
            x.item(0, 2, 39, 77);
            due("from 29", INDEX, x.rails(0, 2, 29));
            due("from 28", 12, x.rails(0, 2, 28));
            due("the last item", 77, x.place(11, 0, 0));
        });
        edge(4, "a row of 11, of 0", x -> {
            x.sheet(0, 2, 11);
            due("of 11", INDEX, x.rails(0, 2, 0));
            x.sheet(0, 2, 0);
            due("of 0", INDEX, x.rails(0, 2, 0));
        });
        edge(4, "BAD", x -> {
            x.sheet(0, 0, 12);
            for (int s : NO_SHEET) due("sheet " + s, BAD, x.rails(s, 0, 0));
            for (int l : NO_LANE) due("lane " + l, BAD, x.rails(0, l, 0));
        });
        edge(4, "NULL", x -> {
            for (int s = 0; s < 4; s++) due("sheet " + s, NULL, x.rails(s, 0, 0));
            x.sheet(2, 0, 12);
            x.drop(2);
            due("dropped", NULL, x.rails(2, 0, 0));
        });
        edge(4, "CAST", x -> {
            for (int l = 0; l < 3; l++) {
                x.sheet(0, l, 12);
                for (int taken = 0; taken < 3; taken++) {
                    due("a row of " + l + " as " + taken, taken == l ? 12 : CAST, x.rails(0, taken, 0));
                }
            }
        });
    }

    private static void railsOrder() {
        edge(4, "BAD; NULL; CAST; INDEX; NOT: of several the first", x -> {
            due("BAD ahead of NULL", BAD, x.rails(0, 3, 0));
            due("NULL ahead of INDEX", NULL, x.rails(0, 0, -1));
            fill(x, 0, 1, 200, 200, 200, 200, 200, 200, 200, 200, 200, 200, 200, 200);
            due("BAD ahead of CAST and INDEX", BAD, x.rails(0, -1, -1));
            due("CAST ahead of INDEX", CAST, x.rails(0, 0, -1));
            due("CAST ahead of NOT", CAST, x.rails(0, 2, 0));
            due("INDEX ahead of NOT", INDEX, x.rails(0, 1, 1));
            due("INDEX ahead of NOT", INDEX, x.rails(0, 1, -1));
            due("NOT", NOT, x.rails(0, 1, 0));
        });
    }

    private static void set() {
        edge(5, "THIN (0) .. 1 .. 40", x -> {
            for (int v : new int[] {0, -1, MIN}) due("thin " + v, BAD, x.set(0, v));
            due("thin 1", 4, x.set(0, 1));
            x.set(1, 40);
            due("thin 40", 1, x.set(0, 40));
            for (int v : new int[] {41, MAX}) due("thin " + v, BAD, x.set(0, v));
            due("40 stays", 40, x.set(0, 4));
        });
        edge(5, "THICK (1) .. 1 .. 40", x -> {
            due("thick 40", 12, x.set(1, 40));
            for (int v : new int[] {41, MAX}) due("thick " + v, BAD, x.set(1, v));
            x.set(0, 1);
            due("thick 1", 40, x.set(1, 1));
            for (int v : new int[] {0, -1, MIN}) due("thick " + v, BAD, x.set(1, v));
            due("1 stays", 1, x.set(1, 4));
        });
        edge(5, "BAD: also THIN above THICK", x -> {
            due("thin 13, thick 12", BAD, x.set(0, 13));
            due("thick 3, thin 4", BAD, x.set(1, 3));
            due("thin 12, thick 12", 4, x.set(0, 12));
            due("thick 11, thin 12", BAD, x.set(1, 11));
            due("thick 12, thin 12", 12, x.set(1, 12));
        });
        edge(5, "MEASURE is 10 .. 400", x -> {
            due("10", 100, x.set(2, 10));
            for (int v : new int[] {9, 0, -1, MIN}) due("measure " + v, BAD, x.set(2, v));
            due("400", 10, x.set(2, 400));
            for (int v : new int[] {401, MAX}) due("measure " + v, BAD, x.set(2, v));
            due("400 stays", 400, x.set(2, 100));
        });
        edge(5, "CYCLE (1 .. 200)", x -> {
            due("1", 20, x.set(3, 1));
            for (int v : new int[] {0, -1, MIN}) due("cycle " + v, BAD, x.set(3, v));
            due("200", 1, x.set(3, 200));
            for (int v : new int[] {201, MAX}) due("cycle " + v, BAD, x.set(3, v));
            due("200 stays", 200, x.set(3, 20));
        });
        edge(5, "THIN (0), THICK (1), MEASURE (2), CYCLE (3)", x -> {
            for (int what : new int[] {-1, 4, MIN, MAX}) due("what " + what, BAD, x.set(what, 10));
            due("thin stays", 4, x.set(0, 5));
            due("thick stays", 12, x.set(1, 13));
            due("measure stays", 100, x.set(2, 101));
            due("cycle stays", 20, x.set(3, 21));
            due("what it was", 5, x.set(0, 5));
            due("what it was", 13, x.set(1, 13));
            due("what it was", 101, x.set(2, 101));
            due("what it was", 21, x.set(3, 21));
        });
    }

    private static void falls() {
        edge(6, "such teeth (0 .. 127). BAD", x -> {
            due("0", 0, x.falls(0));
            due("127", 12, x.falls(127));
            for (int v : new int[] {-1, 128, MIN, MAX}) due("teeth " + v, BAD, x.falls(v));
        });
        edge(6, "at the first PLACE whose RAILS hold none of its teeth", x -> {
            x.place(3, 0, 7);
            x.place(4, 0, 7);
            due("first at 3", 3, x.falls(120));
            due("one of its teeth is held", 12, x.falls(121));
            x.place(3, 0, 15);
            due("then at 4", 4, x.falls(120));
            x.place(0, 0, 7);
            due("at 0", 0, x.falls(120));
        });
        edge(6, "at none: into THE BOX (PLACE 12)", x -> {
            for (int p = 0; p < 12; p++) x.place(p, 0, 64);
            due("held by one rail everywhere", 12, x.falls(64));
            due("with others", 12, x.falls(127));
            due("held nowhere", 0, x.falls(63));
            x.place(11, 0, 63);
            due("at the last", 11, x.falls(64));
        });
        edge(6, "no teeth are held by no rail", x -> {
            for (int p = 0; p < 12; p++) x.place(p, 0, 127);
            due("0", 0, x.falls(0));
            for (int t = 1; t < 128; t *= 2) due("tooth " + t, 12, x.falls(t));
        });
    }

    private static void astray() {
        edge(7, "NONE: THE BAR is RIGHT", x -> {
            due("at first", NONE, x.astray());
            x.place(11, 0, 127);
            due("l", 11, x.astray());
            x.place(11, 0, 127 - 12);
            due("again", NONE, x.astray());
        });
        edge(7, "The first LETTER", x -> {
            for (int k = 11; k >= 0; k--) {
                x.letter(k, 1, 64);
                due("the first of " + (12 - k), k, x.astray());
            }
        });
        edge(7, "not at HOME: ahead of it", x -> {
            x.place(0, 0, 0);
            due("b falls at a", 1, x.astray());
            x.place(0, 0, 126);
            x.place(10, 0, 127 - 12);
            due("k is held at home", 10, x.astray());
            x.letter(10, 1, 4);
            due("k falls at d", 10, x.astray());
        });
        edge(7, "its whole TEETH", x -> {
            x.mould(6, 6);
            due("a worn mould does not count", NONE, x.astray());
        });
    }

    private static void order() {
        edge(8, "place i (0 .. 11). BAD", x -> {
            due("0", 0, x.order(0));
            due("11", 11, x.order(11));
            for (int i : NO_LETTER) due("order(" + i + ")", BAD, x.order(i));
        });
        edge(8, "NONE: there is none", x -> {
            for (int k = 1; k < 12; k++) {
                x.letter(k, 1, k);
                due(k + " is as the one ahead of it: first", NONE, x.order(0));
                due(k + " is as the one ahead of it: last", NONE, x.order(11));
                x.letter(k, 1, k + 1);
                due(k + " is not", k, x.order(k));
            }
            x.letter(11, 1, 1);
            due("a and l are alike", NONE, x.order(5));
        });
        edge(8, "BAD; NONE: of several the first", x -> {
            x.letter(11, 1, 1);
            for (int i : NO_LETTER) due("order(" + i + ")", BAD, x.order(i));
        });
        edge(8, "it exists, if no two TEETH are alike", x -> {
            for (int k = 0; k < 12; k++) x.letter(k, 1, 127 - k);
            int letters = 0;
            for (int i = 0; i < 12; i++) letters |= 1 << x.order(i);
            due("each once", 4095, letters);
        });
        edge(8, "THE ORDER is the first one (the least letter first)", x -> {
            x.letter(0, 1, 64);
            dueOrder(x, 0, 1, 2, 3, 4, 5, 6, 7, 8, 9, 10, 11);
            x.letter(0, 1, 12);
            x.letter(11, 1, 1);
            // a (12) needs d (4) and h (8) ahead of it; all odd ones need l (1)
            dueOrder(x, 1, 3, 5, 7, 0, 9, 11, 2, 4, 6, 8, 10);
        });
        edge(8, "one whose teeth are among another's stands ahead of it", x -> {
            x.letter(0, 1, 127);
            dueOrder(x, 1, 2, 3, 4, 5, 6, 7, 8, 9, 10, 11, 0);
            x.letter(0, 1, 16);
            x.letter(11, 1, 1);
            dueOrder(x, 0, 1, 3, 5, 7, 9, 11, 2, 4, 6, 8, 10);
        });
    }

    private static void lost() {
        edge(9, "BAD (PLACE 0 .. 12)", x -> {
            for (int k : NO_LETTER) due("letter " + k, BAD, x.lost(k, 0));
            for (int p : new int[] {-1, 13, MIN, MAX}) due("place " + p, BAD, x.lost(0, p));
            due("0", 0, x.lost(0, 0));
            due("12", NONE, x.lost(0, 12));
            due("l at 11", 0, x.lost(11, 11));
        });
        edge(9, "0: none need be lost", x -> {
            for (int k = 0; k < 12; k++) due("at home " + k, 0, x.lost(k, k));
            x.letter(3, 1, 64);
            due("in the box", 0, x.lost(3, 12));
        });
        edge(9, "the fewest", x -> {
            x.letter(0, 1, 127);
            due("127 at 11: all but 12", 127 - 12, x.lost(0, 11));
            x.place(11, 0, 64);
            due("127 at 11: one alone", 64, x.lost(0, 11));
            x.place(11, 0, 65);
            due("127 at 11: two", 65, x.lost(0, 11));
        });
        edge(9, "all are lost", x -> {
            x.place(0, 0, 127);
            due("a at 0", 1, x.lost(0, 0));
            x.letter(11, 1, 127);
            due("l at 0", 127, x.lost(11, 0));
        });
        edge(9, "NONE: by none", x -> {
            due("a at 1", NONE, x.lost(0, 1));
            due("a at 11", NONE, x.lost(0, 11));
            due("g at 7", NONE, x.lost(6, 7));
            due("what falls at 0 with all teeth", NONE, x.lost(0, 12));
        });
        edge(9, "a lost tooth never holds it back: THE BOX by none but the whole", x -> {
            x.letter(2, 1, 127);
            due("whole", 0, x.lost(2, 12));
            x.place(11, 0, 0);
            due("no more", NONE, x.lost(2, 12));
        });
    }

    private static void mould() {
        edge(10, "MOULDS 0 .. 59; FULL: 60", x -> {
            for (int m = 0; m < 60; m++) due("mould", m, x.mould(m % 12, 0));
            for (int k = 0; k < 12; k++) due("one more of " + k, FULL, x.mould(k, 0));
            due("60", 60, x.count(0));
            due("told(59, 0)", 11, x.told(59, 0));
            due("told(60, 0)", BAD, x.told(60, 0));
        });
        edge(10, "BAD; FULL: of several the first", x -> {
            addMany(x, 0, 60);
            for (int k : NO_LETTER) due("letter " + k, BAD, x.mould(k, 0));
            due("worn 2", BAD, x.mould(0, 2));
            due("worn 1", FULL, x.mould(0, 1));
        });
        edge(10, "BAD", x -> {
            for (int k : NO_LETTER) due("letter " + k, BAD, x.mould(k, 0));
            due("none came", 0, x.count(0));
            due("the first is 0", 0, x.mould(11, 0));
        });
        edge(10, "BAD: also teeth that its LETTER has not", x -> {
            for (int worn : new int[] {8, 15, 64, 128, 135, 256, -1, MIN, MAX}) due("worn " + worn, BAD, x.mould(6, worn));
            due("none came", 0, x.count(0));
            for (int worn = 0; worn < 8; worn++) due("worn " + worn, worn, x.mould(6, worn));
            for (int m = 0; m < 8; m++) due("what it has", 7 - m, x.told(m, 1));
        });
        edge(10, "with its TEETH as they are then", x -> {
            x.mould(6, 1);
            x.letter(6, 1, 24);
            due("a tooth of before", BAD, x.mould(6, 1));
            due("a tooth of now", 1, x.mould(6, 8));
            due("of before", 6, x.told(0, 1));
            due("of now", 16, x.told(1, 1));
        });
        edge(10, "A CHANNEL holds 8 at most .. if that is full, into THE BOX", x -> {
            addMany(x, 11, 9);
            for (int m = 0; m < 8; m++) due("mould " + m, 11, x.told(m, 2));
            due("the ninth", 12, x.told(8, 2));
            dueChannel(x, 11, 0, 1, 2, 3, 4, 5, 6, 7);
            due("another letter's", 9, x.mould(10, 0));
            due("is at home", 10, x.told(9, 2));
        });
        edge(10, "THE BOX (that holds any)", x -> {
            addMany(x, 4, 60);
            due("in the channel", 8, x.count(1));
            due("in the box", 52, x.count(2));
            due("the last", 12, x.told(59, 2));
        });
        edge(10, "A MOULD that is new comes into the CHANNEL at HOME, whatever its teeth", x -> {
            x.mould(6, 7);
            x.place(0, 0, 0);
            x.mould(6, 0);
            dueChannel(x, 6, 0, 1);
            dueChannel(x, 0);
        });
    }

    private static void told() {
        edge(11, "BAD: there is no such MOULD", x -> {
            for (int m : new int[] {-1, 0, 59, 60, MIN, MAX}) due("told(" + m + ", 0)", BAD, x.told(m, 0));
            x.mould(0, 0);
            due("told(0, 0)", 0, x.told(0, 0));
            for (int what = 0; what < 3; what++) due("told(1, " + what + ")", BAD, x.told(1, what));
        });
        edge(11, "0 its LETTER, 1 what teeth it has, 2 where it is", x -> {
            x.mould(9, 2);
            due("its letter", 9, x.told(0, 0));
            due("its teeth", 8, x.told(0, 1));
            due("where", 9, x.told(0, 2));
            for (int what : new int[] {-1, 3, MIN, MAX}) due("told(0, " + what + ")", BAD, x.told(0, what));
        });
        edge(11, "0 .. 11 a CHANNEL", x -> {
            for (int k = 0; k < 12; k++) x.mould(k, 0);
            for (int k = 0; k < 12; k++) due("where", k, x.told(k, 2));
        });
        edge(11, "12 THE BOX", x -> {
            addMany(x, 0, 9);
            due("the ninth", 12, x.told(8, 2));
        });
        edge(11, "13 falling, or in THE LINE", x -> {
            x.mould(0, 0);
            x.key(0);
            due("let go", 13, x.told(0, 2));
            x.ticks(1);
            due("falling", 13, x.told(0, 2));
            x.ticks(1);
            due("in the line", 13, x.told(0, 2));
        });
        edge(11, "14 on THE BAR", x -> {
            x.mould(0, 0);
            x.set(2, 10);
            x.key(0);
            x.ticks(2);
            x.cast();
            due("cast", 14, x.told(0, 2));
            x.ticks(19);
            due("a tick ahead", 14, x.told(0, 2));
            x.ticks(1);
            due("fallen", 0, x.told(0, 2));
        });
    }

    private static void wear() {
        edge(12, "BAD: there is no such MOULD", x -> {
            for (int m : new int[] {-1, 0, 60, MIN, MAX}) due("wear(" + m + ", 0)", BAD, x.wear(m, 0));
            x.mould(0, 0);
            due("wear(1, 0)", BAD, x.wear(1, 0));
            due("wear(0, 0)", 1, x.wear(0, 0));
        });
        edge(12, "BAD: also teeth that it has not", x -> {
            x.mould(6, 2);
            for (int t : new int[] {2, 3, 6, 7, 8, 9, 128, 129, -1, MIN, MAX}) due("wear(0, " + t + ")", BAD, x.wear(0, t));
            due("it has", 5, x.told(0, 1));
            due("one", 4, x.wear(0, 1));
            due("the same", BAD, x.wear(0, 1));
            due("the last", 0, x.wear(0, 4));
            due("none is left", BAD, x.wear(0, 4));
            due("none of none", 0, x.wear(0, 0));
        });
        edge(12, "what it has then: of all seven", x -> {
            x.letter(6, 1, 127);
            x.mould(6, 0);
            due("none", 127, x.wear(0, 0));
            due("all", 0, x.wear(0, 127));
        });
        edge(12, "A MOULD loses teeth, wherever it is", x -> {
            addMany(x, 6, 9);
            due("in the box", 6, x.wear(8, 1));
            due("in a channel", 5, x.wear(0, 2));
            x.key(6);
            due("falling", 4, x.wear(0, 1));
            x.ticks(8);
            due("in the line", 0, x.wear(0, 4));
            due("the letter's teeth stay", 7, x.letter(6, 1, 7));
            due("another's stay", 7, x.told(1, 1));
        });
    }

    private static void home() {
        edge(13, "BAD: there is no such MOULD", x -> {
            for (int m : new int[] {-1, 0, 59, 60, MIN, MAX}) due("home(" + m + ")", BAD, x.home(m));
        });
        edge(13, "NOT: it is not in THE BOX", x -> {
            x.mould(0, 0);
            x.set(2, 10);
            due("in its channel", NOT, x.home(0));
            x.key(0);
            due("falling", NOT, x.home(0));
            x.ticks(2);
            due("in the line", NOT, x.home(0));
            x.cast();
            due("on the bar", NOT, x.home(0));
            due("it is there still", 14, x.told(0, 2));
        });
        edge(13, "NOT: in another's CHANNEL", x -> {
            x.mould(1, 2);
            x.set(2, 10);
            x.key(1);
            x.ticks(3);
            x.cast();
            x.ticks(20);
            due("b lies at a", 0, x.told(0, 2));
            due("home(0)", NOT, x.home(0));
        });
        edge(13, "FULL", x -> {
            addMany(x, 7, 10);
            due("8 in it", FULL, x.home(8));
            due("it stays in the box", 12, x.told(8, 2));
            x.key(7);
            due("7 in it", 8, x.home(9));
            due("8 again", FULL, x.home(8));
            dueChannel(x, 7, 1, 2, 3, 4, 5, 6, 7, 9);
        });
        edge(13, "NOT; FULL: of several the first", x -> {
            addMany(x, 7, 8);
            due("in its channel, that is full", NOT, x.home(0));
        });
        edge(13, "how many that holds", x -> {
            addMany(x, 7, 8);
            for (int m = 0; m < 8; m++) x.key(7);
            x.ticks(9);
            due("clear()", 8, x.clear());
            for (int m = 7; m >= 0; m--) due("home(" + m + ")", 8 - m, x.home(m));
            dueChannel(x, 7, 7, 6, 5, 4, 3, 2, 1, 0);
        });
        edge(13, "the CHANNEL at HOME, though worn", x -> {
            x.mould(7, 8);
            x.key(7);
            x.ticks(9);
            x.clear();
            due("home(0)", 1, x.home(0));
            due("where", 7, x.told(0, 2));
        });
    }

    private static void channel() {
        edge(14, "BAD", x -> {
            for (int p : NO_LETTER) {
                due("channel(" + p + ", -1)", BAD, x.channel(p, -1));
                due("channel(" + p + ", 0)", BAD, x.channel(p, 0));
            }
        });
        edge(14, "BAD: also i below -1", x -> {
            x.mould(3, 0);
            for (int i : new int[] {-2, -3, MIN}) due("channel(3, " + i + ")", BAD, x.channel(3, i));
        });
        edge(14, "how many it holds (i -1)", x -> {
            due("dry", 0, x.channel(3, -1));
            for (int n = 1; n <= 8; n++) {
                x.mould(3, 0);
                due("holds", n, x.channel(3, -1));
            }
            x.mould(3, 0);
            due("8 at most", 8, x.channel(3, -1));
        });
        edge(14, "NONE", x -> {
            due("of a dry one", NONE, x.channel(3, 0));
            x.mould(3, 0);
            due("the first", 0, x.channel(3, 0));
            for (int i : new int[] {1, 7, 8, 59, MAX}) due("channel(3, " + i + ")", NONE, x.channel(3, i));
            addMany(x, 3, 7);
            due("the eighth", 7, x.channel(3, 7));
            for (int i : new int[] {8, 9, MAX}) due("channel(3, " + i + ")", NONE, x.channel(3, i));
        });
        edge(14, "The i-th MOULD (0: the first); what comes goes behind", x -> {
            addMany(x, 3, 3);
            x.key(3);
            dueChannel(x, 3, 1, 2);
            x.mould(3, 0);
            dueChannel(x, 3, 1, 2, 3);
            x.key(3);
            x.key(3);
            x.key(3);
            dueChannel(x, 3);
        });
    }
}
