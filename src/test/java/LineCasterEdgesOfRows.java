import java.util.Arrays;

/** Promises 25 to 32 (rows of keys, teeth): each sentence that names a boundary has a test of its own. */
public final class LineCasterEdgesOfRows extends Checks {
    private static final int LAST = 99999;

    public static void main(String[] args) {
        rows(25, (x, s, l, i, n) -> x.comes(s, l, i, n, 1, 0));
        rows(26, (x, s, l, i, n) -> x.turned(s, l, i, n, 1));
        rows(27, LineCaster::waits);
        rows(28, LineCaster::gap);
        comes();
        turned();
        waits();
        gap();
        type();
        plays();
        playsStops();
        playsFull();
        risk();
        better();
        dueEdges(25, 32);
        end("the edges of rows of keys and of teeth hold");
    }

    // ---- what all four calls on a row of keys say

    private interface RowCall {
        int of(LineCaster x, int sheet, int lane, int i, int n);
    }

    private static void rows(int promise, RowCall call) {
        edge(promise, "A ROW of KEYS (1 to 24): BAD", x -> {
            x.sheet(0, 0, 40);
            for (int n : new int[] {0, 25, 40, -1, MIN, MAX}) due("n " + n, BAD, call.of(x, 0, 0, 0, n));
            due("n 1", 0, Math.min(0, call.of(x, 0, 0, 0, 1)));
            due("n 24", 0, Math.min(0, call.of(x, 0, 0, 0, 24)));
        });
        edge(promise, "a SHEET (0 .. 3), a LANE (0 .. 2): BAD", x -> {
            for (int s = 0; s < 4; s++) x.sheet(s, 0, 3);
            for (int s : new int[] {-1, 4, MIN, MAX}) due("sheet " + s, BAD, call.of(x, s, 0, 0, 3));
            for (int l : new int[] {-1, 3, MIN, MAX}) due("lane " + l, BAD, call.of(x, 0, l, 0, 3));
            for (int s = 0; s < 4; s++) due("sheet " + s, 0, Math.min(0, call.of(x, s, 0, 0, 3)));
        });
        edge(promise, "NULL", x -> {
            for (int s = 0; s < 4; s++) due("nothing at first", NULL, call.of(x, s, 0, 0, 1));
            x.sheet(1, 0, 1);
            x.drop(1);
            due("dropped", NULL, call.of(x, 1, 0, 0, 1));
        });
        edge(promise, "CAST", x -> {
            for (int l = 0; l < 3; l++) {
                x.sheet(0, l, 3);
                for (int taken = 0; taken < 3; taken++) {
                    int want = taken == l ? 0 : CAST;
                    due("a row of " + l + " as " + taken, want, Math.min(0, call.of(x, 0, taken, 0, 3)));
                }
            }
        });
        edge(promise, "INDEX", x -> {
            x.sheet(0, 1, 24);
            for (int i : new int[] {-1, 20, 24, 40, MIN, MAX}) due("five from " + i, INDEX, call.of(x, 0, 1, i, 5));
            due("five from 19", 0, Math.min(0, call.of(x, 0, 1, 19, 5)));
            due("the last one", 0, Math.min(0, call.of(x, 0, 1, 23, 1)));
            due("none from beyond", INDEX, call.of(x, 0, 1, 24, 1));
            due("24 from 1", INDEX, call.of(x, 0, 1, 1, 24));
            x.sheet(0, 1, 0);
            due("of an empty row", INDEX, call.of(x, 0, 1, 0, 1));
            x.sheet(0, 1, 40);
            due("the last 24 of 40", 0, Math.min(0, call.of(x, 0, 1, 16, 24)));
            due("one on", INDEX, call.of(x, 0, 1, 17, 24));
        });
        edge(promise, "NOT: one is not 0 .. 12", x -> {
            for (int l = 0; l < 3; l++) {
                x.sheet(0, l, 5);
                for (int i = 0; i < 5; i++) {
                    for (int bad : new int[] {13, -1}) {
                        x.item(0, l, i, bad);
                        due(bad + " at " + i, i >= 1 && i <= 3 ? NOT : 0, Math.min(0, call.of(x, 0, l, 1, 3)));
                    }
                    x.item(0, l, i, 12);
                }
            }
        });
        edge(promise, "BAD; NULL; CAST; INDEX; NOT: of several the first", x -> {
            due("BAD (n) ahead of NULL", BAD, call.of(x, 0, 0, 0, 25));
            due("BAD (lane) ahead of NULL", BAD, call.of(x, 0, 3, 0, 1));
            due("NULL ahead of INDEX", NULL, call.of(x, 0, 0, -1, 1));
            fill(x, 0, 2, 13, 13, 13);
            due("BAD (n) ahead of CAST", BAD, call.of(x, 0, 1, 0, 0));
            due("BAD (n) ahead of INDEX", BAD, call.of(x, 0, 2, -1, 25));
            due("BAD (n) ahead of NOT", BAD, call.of(x, 0, 2, 0, 0));
            due("CAST ahead of INDEX", CAST, call.of(x, 0, 1, 3, 1));
            due("CAST ahead of NOT", CAST, call.of(x, 0, 1, 0, 3));
            due("INDEX ahead of NOT", INDEX, call.of(x, 0, 2, 1, 3));
            due("NOT", NOT, call.of(x, 0, 2, 0, 3));
        });
    }

    private static void gaps(int promise, RowCall call) {
        edge(promise, "GAP (1 .. 30): BAD", x -> {
            fill(x, 0, 0, 3, 2);
            // here the n is the gap
            for (int gap : new int[] {0, 31, -1, MIN, MAX}) due("gap " + gap, BAD, call.of(x, 0, 0, 0, gap));
            due("gap 1", 0, call.of(x, 0, 0, 0, 1));
            due("gap 30", 0, call.of(x, 0, 0, 0, 30));
            due("BAD ahead of NULL", BAD, call.of(x, 1, 0, 0, 31));
            due("BAD ahead of CAST", BAD, call.of(x, 0, 1, 0, 0));
            due("BAD ahead of INDEX", BAD, call.of(x, 0, 0, 1, 31));
            x.item(0, 0, 0, 13);
            due("BAD ahead of NOT", BAD, call.of(x, 0, 0, 0, 31));
        });
    }

    private static void comes() {
        gaps(25, (x, s, l, i, gap) -> x.comes(s, l, i, 2, gap, 0));
        edge(25, "BAD: also k not 0 .. n - 1", x -> {
            x.sheet(0, 0, 24);
            for (int n : new int[] {1, 5, 24}) {
                for (int k : new int[] {-1, n, n + 1, 24, MIN, MAX}) due("k " + k, BAD, x.comes(0, 0, 0, n, 1, k));
                due("the last", n - 1, x.comes(0, 0, 0, n, 1, n - 1));
                due("the first", 0, x.comes(0, 0, 0, n, 1, 0));
            }
        });
        edge(25, "BAD (k) ahead of the others", x -> {
            due("ahead of NULL", BAD, x.comes(0, 0, 0, 1, 1, 1));
            fill(x, 0, 0, 13, 13);
            due("ahead of CAST", BAD, x.comes(0, 1, 0, 1, 1, -1));
            due("ahead of INDEX", BAD, x.comes(0, 0, 2, 1, 1, 1));
            due("ahead of NOT", BAD, x.comes(0, 0, 0, 2, 1, 2));
            due("an n that is none, too", BAD, x.comes(0, 0, 0, MAX, 1, 24));
        });
        edge(25, "those of one TICK as they were let go", x -> {
            fill(x, 0, 1, 11, 10, 9, 8, 7, 6, 5, 4, 3, 2, 1, 0, 12);
            for (int k = 0; k < 12; k++) due("all at one, k " + k, k, x.comes(0, 1, 0, 12, 1, k));
            due("a tick behind them", 12, x.comes(0, 1, 0, 13, 1, 12));
        });
        edge(25, "12: a BAND, with REACH 0", x -> {
            fill(x, 0, 1, 1, 12);
            due("of one tick", 0, x.comes(0, 1, 0, 2, 1, 0));
            x.place(1, 1, 2);
            due("a tick ahead", 1, x.comes(0, 1, 0, 2, 1, 0));
            due("gap 2", 0, x.comes(0, 1, 0, 2, 2, 0));
        });
        edge(25, "REACH 20, GAP 19 and 20", x -> {
            x.place(5, 1, 20);
            fill(x, 0, 2, 5, 12);
            due("gap 19", 1, x.comes(0, 2, 0, 2, 19, 0));
            due("gap 19, the last", 0, x.comes(0, 2, 0, 2, 19, 1));
            due("gap 20", 0, x.comes(0, 2, 0, 2, 20, 0));
        });
        edge(25, "its place in the ROW: 24 KEYS, each comes once", x -> {
            x.place(11, 1, 20);
            int[] keys = new int[24];
            for (int j = 0; j < 24; j++) keys[j] = j < 12 ? 11 : 0;
            fill(x, 0, 0, keys);
            int[] want = {12, 13, 14, 15, 16, 17, 18, 19, 0, 20, 1, 21, 2, 22, 3, 23, 4, 5, 6, 7, 8, 9, 10, 11};
            for (int k = 0; k < 24; k++) due("k " + k, want[k], x.comes(0, 0, 0, 24, 1, k));
        });
        edge(25, "items from item i on", x -> {
            fill(x, 0, 0, 0, 11, 0, 11);
            due("from 0", 0, x.comes(0, 0, 0, 2, 1, 0));
            due("from 1", 1, x.comes(0, 0, 1, 2, 1, 0));
        });
    }

    private static void turned() {
        gaps(26, (x, s, l, i, gap) -> x.turned(s, l, i, 2, gap));
        edge(26, "pairs that come the other way round: those of one TICK do not", x -> {
            fill(x, 0, 0, 3, 2, 1, 0);
            due("gap 1", 0, x.turned(0, 0, 0, 4, 1));
            x.place(3, 1, 4);
            due("a tick later", 3, x.turned(0, 0, 0, 4, 1));
            due("gap 2", 0, x.turned(0, 0, 0, 4, 2));
        });
        edge(26, "one KEY has no pair", x -> {
            fill(x, 0, 0, 11);
            due("turned", 0, x.turned(0, 0, 0, 1, 1));
        });
        edge(26, "the most pairs", x -> {
            x.place(11, 1, 20);
            int[] keys = new int[24];
            for (int j = 0; j < 24; j++) keys[j] = j < 12 ? 11 : 12;
            fill(x, 0, 0, keys);
            // key j of the first twelve comes at j + 20, band t at 12 + t: turned where t < j + 8
            due("24 keys", 144 - (4 + 3 + 2 + 1), x.turned(0, 0, 0, 24, 1));
            due("by a gap of 19 the two in the middle", 1, x.turned(0, 0, 0, 24, 19));
            due("by a gap of 20", 0, x.turned(0, 0, 0, 24, 20));
            due("by a gap of 10 those two apart come at one tick", 1, x.turned(0, 0, 11, 3, 10));
        });
        edge(26, "pairs far from one another", x -> {
            x.place(11, 1, 20);
            fill(x, 0, 0, 11, 11, 11, 0);
            due("gap 7", 2, x.turned(0, 0, 0, 4, 7));
            due("gap 6", 3, x.turned(0, 0, 0, 4, 6));
            due("gap 10", 1, x.turned(0, 0, 0, 4, 10));
        });
    }

    private static void waits() {
        edge(27, "how many TICKS: of one KEY", x -> {
            fill(x, 0, 0, 11);
            due("waits", 0, x.waits(0, 0, 0, 1));
        });
        edge(27, "1 TICK or more behind the one ahead of it", x -> {
            fill(x, 0, 0, 0, 11, 11, 10, 8);
            due("one that comes later anyhow", 1, x.waits(0, 0, 0, 2));
            due("alike", 1, x.waits(0, 0, 1, 2));
            due("1 nearer", 1, x.waits(0, 0, 2, 2));
            due("2 nearer", 2, x.waits(0, 0, 3, 2));
            due("all", 5, x.waits(0, 0, 0, 5));
        });
        edge(27, "the most", x -> {
            x.place(11, 1, 20);
            int[] keys = new int[24];
            for (int j = 0; j < 24; j++) keys[j] = j % 2 == 0 ? 11 : 12;
            fill(x, 0, 0, keys);
            due("12 times 20, 11 times 1", 251, x.waits(0, 0, 0, 24));
            due("23 alike", 23, waitsOf(new LineCaster(), 24));
        });
        edge(27, "no sooner than that one: the one ahead, which comes last of all", x -> {
            x.place(11, 1, 20);
            fill(x, 0, 0, 11, 5, 12);
            due("20 - 5, 5", 20, x.waits(0, 0, 0, 3));
        });
    }

    private static int waitsOf(LineCaster x, int n) {
        x.sheet(0, 0, n);
        return x.waits(0, 0, 0, n);
    }

    private static void gap() {
        edge(28, "The least GAP: 1", x -> {
            fill(x, 0, 0, 0, 11, 11, 10);
            due("one key", 1, x.gap(0, 0, 1, 1));
            due("none could be turned", 1, x.gap(0, 0, 0, 3));
            due("of one tick", 1, x.gap(0, 0, 0, 4));
        });
        edge(28, "The least GAP: 20 is enough for any ROW, so never NONE", x -> {
            x.place(11, 1, 20);
            int[] keys = new int[24];
            for (int j = 0; j < 24; j++) keys[j] = j % 2 == 0 ? 11 : 12;
            fill(x, 0, 0, keys);
            due("reach 20 ahead of a band", 20, x.gap(0, 0, 0, 24));
            due("two", 20, x.gap(0, 0, 0, 2));
            x.place(11, 1, 19);
            due("reach 19", 19, x.gap(0, 0, 0, 24));
        });
        edge(28, "by which none are TURNED: one far ahead", x -> {
            x.place(11, 1, 20);
            x.place(10, 1, 13);
            x.place(9, 1, 7);
            fill(x, 0, 0, 11, 10, 9, 12);
            due("7, 6 and 7 apart", 7, x.gap(0, 0, 0, 4));
            x.place(10, 1, 20);
            x.place(9, 1, 20);
            due("20 apart", 20, x.gap(0, 0, 0, 4));
            x.place(10, 1, 0);
            x.place(9, 1, 0);
            due("20 apart at first", 20, x.gap(0, 0, 0, 4));
        });
    }

    // ---- the tape

    private static void type() {
        edge(29, "BAD: n (1 .. 8)", x -> {
            for (int n : new int[] {0, 9, -1, MIN, MAX}) due("n " + n, BAD, x.type(0x6161616161616161L, n));
            due("nothing came", 1, x.type('a', 1));
            due("eight", 9, x.type(0x6161616161616161L, 8));
        });
        edge(29, "BAD: a byte not 32 .. 126", x -> {
            for (int b : new int[] {0, 31, 127, 128, 255}) {
                for (int at = 0; at < 8; at++) {
                    long w = 0x6161616161616161L & ~(255L << 8 * at) | (long) b << 8 * at;
                    due("byte " + at + " is " + b, BAD, x.type(w, 8));
                }
            }
            due("32", 1, x.type(32, 1));
            due("126", 2, x.type(126, 1));
            due("both", 4, x.type(126L << 8 | 32, 2));
        });
        edge(29, "The n lowest bytes: those above are not looked at", x -> {
            for (int n = 1; n < 8; n++) {
                long above = -1L << 8 * n;
                due("n " + n, n * (n + 1) / 2, x.type(0x6161616161616161L & ~above | above, n));
            }
            due("one byte more", BAD, x.type(0x6161616161616161L & 0xFFFFFF | 0xFF000000L, 4));
        });
        edge(29, "of these the highest first", x -> {
            due("z ahead of a", 2, x.type('z' << 8 | 'a', 2));
            due("a fault at 0", -20, x.plays(1));
            due("a ahead of z", 2, x.type('a' << 8 | 'z', 2));
            due("a fault at 1", -21, x.plays(1));
            due("the highest of eight", 8, x.type(0x7A61616161616161L, 8));
            due("a fault at 0", -20, x.plays(1));
            due("the lowest of eight", 8, x.type(0x616161616161617AL, 8));
            due("a fault at 7", -27, x.plays(1));
        });
        edge(29, "come behind THE TAPE", x -> {
            due("a", 1, x.type('a', 1));
            due("az", 3, x.type('a' << 8 | 'z', 2));
            due("a fault at 2", -22, x.plays(1));
        });
        edge(29, "FULL: 60", x -> {
            for (int t = 8; t <= 56; t += 8) due("eight", t, x.type(0x6161616161616161L, 8));
            for (int n = 5; n <= 8; n++) due("56 and " + n, FULL, x.type(0x6161616161616161L, n));
            due("56 and 4", 60, x.type(0x61616161L, 4));
            due("60 and 1", FULL, x.type('a', 1));
            due("none of them came", 0, x.plays(1));
            due("the tape is empty", 1, x.type('a', 1));
        });
        edge(29, "FULL: 60, one by one", x -> {
            for (int t = 1; t <= 60; t++) due("one", t, x.type('z', 1));
            due("one more", FULL, x.type('z', 1));
        });
        edge(29, "BAD; FULL: of several the first", x -> {
            for (int t = 1; t <= 60; t++) x.type('a', 1);
            due("n", BAD, x.type('a', 0));
            due("n", BAD, x.type('a', 9));
            due("a byte", BAD, x.type(31, 1));
            due("FULL", FULL, x.type(32, 1));
        });
    }

    private static void plays() {
        edge(30, "BAD: the GAP (THE TAPE stays)", x -> {
            x.mould(0, 0);
            write(x, "a");
            for (int gap : new int[] {0, 31, -1, MIN, MAX}) due("plays(" + gap + ")", BAD, x.plays(gap));
            due("the tape has one more", 2, write(x, " "));
            due("plays(1)", 2, x.plays(1));
            due("gap 30", -20, x.plays(30));
        });
        edge(30, "BAD ahead of a FAULT, of FULL", x -> {
            due("an empty tape", BAD, x.plays(0));
            write(x, "z");
            due("a fault", BAD, x.plays(31));
            due("the tape stays", -20, x.plays(30));
            due("it is empty then", 1, write(x, "a"));
        });
        edge(30, "an empty TAPE: -20", x -> {
            due("at first", -20, x.plays(1));
            due("again", -20, x.plays(30));
            x.mould(0, 0);
            write(x, "a");
            due("played", 1, x.plays(1));
            due("empty then", -20, x.plays(1));
        });
        edge(30, "a FAULT: -20 less the place of the first byte that is none of these", x -> {
            for (int at : new int[] {0, 1, 58, 59}) {
                char[] text = new char[60];
                Arrays.fill(text, ' ');
                text[at] = 'm';
                text[59] = 'z';
                due("the tape was empty", 60, write(x, new String(text)));
                due("the first at " + at, -20 - at, x.plays(30));
            }
            due("none was let go", 12, x.count(6));
            due("no tick went on", 0, x.count(8));
        });
        edge(30, "a .. l are KEYS of PLACES 0 .. 11, a blank a BAND; none of these", x -> {
            for (int sign = 32; sign <= 126; sign++) {
                boolean known = sign == ' ' || sign >= 'a' && sign <= 'l';
                x.type(sign, 1);
                due("sign " + sign, sign == ' ' ? 1 : known ? 0 : -20, x.plays(1));
            }
        });
        edge(30, "a .. l are KEYS of PLACES 0 .. 11", x -> {
            for (int k = 0; k < 12; k++) x.mould(k, 0);
            levelReaches(x);
            write(x, "lkjihgfedcba ");
            due("plays(1)", 13, x.plays(1));
            x.ticks(2);
            dueLine(x, 11, 10, 9, 8, 7, 6, 5, 4, 3, 2, 1, 0, 100);
        });
        edge(30, "by a FAULT it is empty, too", x -> {
            write(x, "az");
            due("a fault", -21, x.plays(1));
            due("empty", -20, x.plays(1));
            due("the first again", 1, write(x, "a"));
        });
        edge(30, "one each GAP TICKS from NOW on (none behind the last)", x -> {
            addMany(x, 0, 3);
            x.ticks(7);
            write(x, "aaa");
            due("plays(30)", 3, x.plays(30));
            due("now", 67, x.count(8));
            dueLine(x, 0, 1);
            x.ticks(2);
            dueLine(x, 0, 1, 2);
            write(x, " ");
            due("one", 1, x.plays(30));
            due("no tick goes on", 69, x.count(8));
        });
    }

    private static void playsStops() {
        edge(30, "till one can't be let go: a dry CHANNEL", x -> {
            addMoulds(x, 0, 2);
            write(x, "abc");
            due("plays(1)", 1, x.plays(1));
            due("c is not played", 1, x.channel(2, -1));
            due("the tape is empty", -20, x.plays(1));
        });
        edge(30, "till one can't be let go: the first", x -> {
            write(x, "a ");
            due("plays(30)", 0, x.plays(30));
            due("no tick went on", 0, x.count(8));
            due("the blank is not played", 12, x.count(6));
        });
        edge(30, "till one can't be let go: no BAND is free", x -> {
            x.mould(0, 0);
            due("13 blanks", 14, write(x, "             a"));
            due("plays(1)", 12, x.plays(1));
            due("a is not played", 1, x.channel(0, -1));
        });
        edge(30, "till one can't be let go: 24 things", x -> {
            for (int m = 0; m < 24; m++) x.mould(m / 8, 0);
            write(x, "aaaaaaaabbbbbbbbcccccccc ");
            due("plays(1)", 24, x.plays(1));
            due("no band was let go", 12, x.count(6));
        });
        edge(30, "all of it can be let go: 24 of 24", x -> {
            for (int m = 0; m < 24; m++) x.mould(m / 8, 0);
            write(x, "aaaaaaaabbbbbbbbcccccccc");
            due("plays(1)", 24, x.plays(1));
            due("23 ticks", 23, x.count(8));
        });
        edge(30, "those TICKS go on between: what FALLS from THE BAR can be played", x -> {
            x.mould(0, 0);
            x.set(2, 10);
            x.set(3, 1);
            x.key(0);
            x.ticks(2);
            x.cast();
            write(x, " a");
            due("a tick later it is home", 2, x.plays(1));
        });
        edge(30, "those TICKS go on ahead of one that then can't be let go", x -> {
            x.mould(0, 0);
            write(x, "aa");
            due("plays(30)", 1, x.plays(30));
            due("now", 30, x.count(8));
            dueLine(x, 0);
        });
    }

    private static void playsFull() {
        edge(30, "FULL: NOW could come above 99999", x -> {
            waitUntil(x, LAST - 29);
            write(x, "  ");
            due("30 more", FULL, x.plays(30));
            due("now", LAST - 29, x.count(8));
            due("none was let go", 12, x.count(6));
            due("by FULL it is empty, too", -20, x.plays(30));
            write(x, "  ");
            due("29 more", 2, x.plays(29));
            due("the last tick", LAST, x.count(8));
        });
        edge(30, "FULL: one byte needs no TICK", x -> {
            waitUntil(x, LAST);
            write(x, " ");
            due("one", 1, x.plays(30));
            write(x, "  ");
            due("two", FULL, x.plays(1));
            due("now", LAST, x.count(8));
        });
        edge(30, "FULL: could, though it would stop sooner", x -> {
            waitUntil(x, LAST - 1);
            write(x, "aaa");
            due("the first can't be let go", FULL, x.plays(1));
            write(x, "aa");
            due("two could", 0, x.plays(1));
        });
        edge(30, "FULL: sixty bytes, 59 gaps of 30", x -> {
            waitUntil(x, LAST - 59 * 30 + 1);
            String blanks = "                                                            ";
            due("sixty", 60, write(x, blanks));
            due("1 too late", FULL, x.plays(30));
            due("59", 59, write(x, blanks.substring(1)));
            due("in time", 12, x.plays(30));
        });
        edge(30, "a FAULT; FULL: of several the first", x -> {
            waitUntil(x, LAST);
            write(x, " z");
            due("a fault ahead of FULL", -21, x.plays(30));
            due("an empty tape", -20, x.plays(30));
            write(x, "  ");
            due("BAD ahead of FULL", BAD, x.plays(31));
            due("FULL", FULL, x.plays(30));
        });
    }

    // ---- teeth

    private static void risk() {
        edge(31, "BAD", x -> {
            for (int k : new int[] {-1, 12, MIN, MAX}) due("risk(" + k + ")", BAD, x.risk(k));
            due("the first", 0, x.risk(0));
            due("the last", 2, x.risk(11));
        });
        edge(31, "of one tooth: without it no rail holds it", x -> {
            due("a falls at home without it", 0, x.risk(0));
            due("b falls at a", 1, x.risk(1));
            x.letter(0, 1, 64);
            due("a falls at home still", 0, x.risk(0));
        });
        edge(31, "at a PLACE 0 .. 11: THE BOX is none", x -> {
            x.letter(3, 1, 127);
            due("held everywhere", 0, x.risk(3));
            x.place(11, 0, 1);
            due("by the one tooth that is held at l", 1, x.risk(3));
            x.place(11, 0, 0);
            due("by all seven", 7, x.risk(3));
        });
        edge(31, "that is not its HOME", x -> {
            for (int p = 0; p < 12; p++) x.place(p, 0, 127);
            x.letter(3, 1, 6);
            x.place(3, 0, 2);
            due("home without one, held without the other", 0, x.risk(3));
            x.place(4, 0, 4);
            due("the next without the other", 1, x.risk(3));
            x.place(3, 0, 0);
            due("home anyhow", 0, x.risk(3));
        });
        edge(31, "with that one alone gone", x -> {
            due("g: 6, 5, 3", 3, x.risk(6));
            due("h: none is left", 1, x.risk(7));
            x.place(0, 0, 127);
            x.place(1, 0, 127);
            due("c: 1 and 2 are held", 0, x.risk(2));
        });
    }

    private static void better() {
        edge(32, "BAD", x -> {
            for (int k : new int[] {-1, 12, MIN, MAX}) due("better(" + k + ")", BAD, x.better(k));
            due("the first", 16, x.better(0));
            due("the last", 28, x.better(11));
            x.letter(0, 1, 64);
            x.letter(1, 1, 64);
            for (int k : new int[] {-1, 12}) due("BAD ahead of NONE", BAD, x.better(k));
        });
        edge(32, "NONE: by none THE BAR is RIGHT", x -> {
            x.letter(5, 1, 64);
            due("another is astray", NONE, x.better(4));
            due("its own can be mended", 48, x.better(5));
            x.place(11, 0, 127);
            due("another is held at home", NONE, x.better(5));
        });
        edge(32, "NONE: each would FALL sooner, or catch another", x -> {
            x.place(0, 0, 0);
            x.letter(0, 1, 1);
            for (int k = 1; k < 12; k++) due("all fall at a: better(" + k + ")", NONE, x.better(k));
            due("but a's rails follow its teeth", 16, x.better(0));
        });
        edge(32, "it changes nothing", x -> {
            for (int k = 0; k < 12; k++) x.better(k);
            for (int k = 0; k < 12; k++) {
                due("teeth", k + 1, x.letter(k, 1, k + 1));
                due("rails", 126 - k, x.place(k, 0, 126 - k));
            }
        });
        edge(32, "with RAILS at its HOME that hold all but these", x -> {
            x.place(7, 0, 127);
            due("h is held", 7, x.astray());
            due("its rails now do not matter", betterAtFirst(7), x.better(7));
            due("they stay", 127, x.place(7, 0, 127));
        });
        edge(32, "of like ones the least: 1, the least of all", x -> {
            bar(x, 96, 6, 28, 76, 92, 39, 83, 23, 107, 122, 124, 123);
            due("better(0)", 1, x.better(0));
        });
        edge(32, "of all 1 .. 127: 127, the last of all", x -> {
            bar(x, 98, 42, 41, 73, 28, 60, 47, 122, 117, 115, 93, 126);
            due("better(11)", 127, x.better(11));
        });
        edge(32, "the fewest (LETTER and tooth) are AT RISK, of all LETTERS", x -> {
            for (int k = 0; k < 12; k++) due("better(" + k + ")", bestByTrying(k), x.better(k));
        });
    }

    private static int betterAtFirst(int letter) {
        return new LineCaster().better(letter);
    }

    private static void bar(LineCaster x, int... teeth) {
        for (int k = 0; k < 12; k++) {
            x.letter(k, 1, teeth[k]);
            x.place(k, 0, 127 - teeth[k]);
        }
    }

    /** On new objects, by the calls letter, place, astray and risk alone. */
    private static int bestByTrying(int letter) {
        int best = NONE;
        int fewest = MAX;
        for (int teeth = 1; teeth <= 127; teeth++) {
            LineCaster y = new LineCaster();
            y.letter(letter, 1, teeth);
            y.place(letter, 0, 127 - teeth);
            int risks = 0;
            for (int k = 0; k < 12; k++) risks += y.risk(k);
            if (y.astray() == NONE && risks < fewest) {
                fewest = risks;
                best = teeth;
            }
        }
        return best;
    }
}
