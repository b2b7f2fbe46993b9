import java.util.ArrayList;
import java.util.Arrays;
import java.util.List;

/**
 * "What answers so changes nothing, but as told": each call is tried with numbers at and beyond its
 * boundaries on objects in several states; where it answers below 0, an object on which it was called and one
 * on which it was not must answer alike ever after. Each call must give each answer below 0 that the
 * document names for it, and no other.
 */
public final class LineCasterRefusals extends Checks {
    private static final int FAULT = -20;
    private static final int[][] NAMED = {
        {}, {},
        {BAD}, {BAD}, {BAD, NULL, CAST, INDEX, NOT}, {BAD}, {BAD}, {NONE}, {BAD, NONE}, {BAD, NONE}, {BAD, FULL},
        {BAD}, {BAD}, {BAD, NOT, FULL}, {BAD, NONE}, {BAD, NONE, FULL}, {NONE, FULL}, {BAD, FULL}, {BAD, NONE},
        {NOT, NONE}, {BAD, NOT}, {NOT, NONE, FULL}, {NOT}, {BAD}, {BAD}, {BAD, NULL, CAST, INDEX, NOT},
        {BAD, NULL, CAST, INDEX, NOT}, {BAD, NULL, CAST, INDEX, NOT},
        // NONE of gap can't be reached: reaches differ by 20 at most
        {BAD, NULL, CAST, INDEX, NOT}, {BAD, FULL}, {BAD, FAULT, FULL}, {BAD}, {BAD, NONE},
        {BAD, SIZE}, {BAD, NULL}, {BAD, NULL, CAST, INDEX}, {BAD, NULL, CAST, INDEX}};
    private static final boolean[][] SEEN = new boolean[PROMISES + 1][100];

    private interface Call {
        int on(LineCaster x);
    }

    private static final class Try {
        final int promise;
        final String text;
        final Call call;

        Try(int promise, Call call, int... numbers) {
            this.promise = promise;
            this.text = "promise " + promise + " with " + Arrays.toString(numbers);
            this.call = call;
        }
    }

    private static final List<Try> TRIES = new ArrayList<>();

    public static void main(String[] args) {
        tryBar();
        tryMoulds();
        tryLines();
        tryRows();
        tryTape();
        trySheets();
        inState("new", x -> { }, "", TRIES);
        inState("busy", LineCasterRefusals::busy, "ab z", TRIES);
        inState("full", LineCasterRefusals::full, blanks(58), TRIES);
        inState("24 moulds", LineCasterRefusals::line24, "a", only(10, 13, 15, 16));
        inState("forty slugs", LineCasterRefusals::fortySlugs, "l", only(21));
        inState("late", LineCasterRefusals::late, "  ", only(17, 30));
        dueAnswers();
        end("what is refused changes nothing");
    }

    // ---- states

    /** Something everywhere: in channels, the box, falling, in the line, on the bar, cast, on three sheets. */
    private static void busy(LineCaster x) {
        addMany(x, 0, 9);
        x.mould(1, 2);
        x.mould(2, 0);
        x.mould(11, 4);
        x.mould(11, 0);
        x.set(2, 10);
        x.key(0);
        x.ticks(2);
        x.cast();
        x.key(1);
        x.band();
        x.ticks(3);
        x.key(11);
        x.band();
        x.letter(3, 0, 33);
        x.letter(9, 1, 77);
        x.place(9, 0, 50);
        x.place(5, 1, 17);
        x.set(0, 6);
        x.set(1, 20);
        x.set(2, 40);
        x.set(3, 35);
        fillPlain(x, 0, 0, 13);
        fillPlain(x, 1, 1, 30);
        x.item(1, 1, 29, -1);
        x.sheet(3, 2, 0);
    }

    /** 60 moulds, a line of 24 things that is long, no free band, a bar on which c is astray. */
    private static void full(LineCaster x) {
        for (int m = 0; m < 60; m++) x.mould(m % 6, 0);
        levelReaches(x);
        for (int b = 0; b < 12; b++) x.band();
        for (int m = 0; m < 12; m++) x.key(m % 6);
        x.ticks(2);
        x.letter(2, 1, 2);
        for (int s = 0; s < 4; s++) fillPlain(x, s, 2, 40);
    }

    /** 24 moulds falling, free bands, channels d, e and f full and more of them in the box. */
    private static void line24(LineCaster x) {
        for (int m = 0; m < 60; m++) x.mould(m % 6, 0);
        for (int m = 0; m < 24; m++) x.key(m % 3);
    }

    private static void fortySlugs(LineCaster x) {
        x.set(2, 10);
        x.mould(0, 0);
        for (int s = 0; s < 40; s++) {
            x.band();
            x.ticks(2);
            x.cast();
        }
        x.key(0);
        x.ticks(2);
    }

    private static void late(LineCaster x) {
        addMoulds(x, 0, 3);
        waitUntil(x, 99995);
        x.key(0);
        x.key(3);
    }

    private static void fillPlain(LineCaster x, int sheet, int lane, int n) {
        x.sheet(sheet, lane, n);
        for (int i = 0; i < n; i++) x.item(sheet, lane, i, (7 * i + sheet) % 13);
    }

    private static String blanks(int n) {
        char[] text = new char[n];
        Arrays.fill(text, ' ');
        return new String(text);
    }

    private static List<Try> only(int... promises) {
        List<Try> some = new ArrayList<>();
        for (Try t : TRIES) {
            for (int p : promises) if (t.promise == p) some.add(t);
        }
        return some;
    }

    // ---- calls at and beyond their boundaries

    private static final int[] SOME = {MIN, -1, 0, 1, 5, 11, 12, MAX};

    private static void tryBar() {
        for (int k : new int[] {MIN, -1, 0, 11, 12, MAX}) {
            for (int what : new int[] {-1, 0, 1, 2}) {
                for (int v : new int[] {MIN, -1, 0, 1, 20, 21, 40, 41, 127, 128, MAX}) {
                    TRIES.add(new Try(2, x -> x.letter(k, what, v), k, what, v));
                    TRIES.add(new Try(3, x -> x.place(k, what, v), k, what, v));
                }
            }
            TRIES.add(new Try(8, x -> x.order(k), k));
            TRIES.add(new Try(31, x -> x.risk(k), k));
            TRIES.add(new Try(32, x -> x.better(k), k));
            for (int p = -1; p <= 13; p++) {
                int place = p;
                TRIES.add(new Try(9, x -> x.lost(k, place), k, place));
            }
        }
        for (int what : new int[] {-1, 0, 1, 2, 3, 4}) {
            for (int v : new int[] {MIN, -1, 0, 1, 3, 4, 12, 13, 9, 10, 40, 41, 200, 201, 400, 401, MAX}) {
                TRIES.add(new Try(5, x -> x.set(what, v), what, v));
            }
        }
        for (int v : new int[] {MIN, -1, 0, 127, 128, MAX}) TRIES.add(new Try(6, x -> x.falls(v), v));
        TRIES.add(new Try(7, LineCaster::astray));
    }

    private static void tryMoulds() {
        for (int a : SOME) {
            for (int b : new int[] {MIN, -2, -1, 0, 1, 2, 3, 4, 7, 8, 128, MAX}) {
                TRIES.add(new Try(10, x -> x.mould(a, b), a, b));
                TRIES.add(new Try(11, x -> x.told(a, b), a, b));
                TRIES.add(new Try(12, x -> x.wear(a, b), a, b));
                TRIES.add(new Try(14, x -> x.channel(a, b), a, b));
            }
        }
        for (int m = -1; m <= 60; m++) {
            int mould = m;
            TRIES.add(new Try(13, x -> x.home(mould), mould));
        }
    }

    private static void tryLines() {
        for (int p = -1; p <= 12; p++) {
            int place = p;
            TRIES.add(new Try(15, x -> x.key(place), place));
        }
        TRIES.add(new Try(16, LineCaster::band));
        for (int n : new int[] {MIN, -1, 0, 1, 4, 5, 300, 301, MAX}) TRIES.add(new Try(17, x -> x.ticks(n), n));
        for (int i : new int[] {MIN, -2, -1, 0, 1, 2, 11, 12, 23, 24, MAX}) {
            TRIES.add(new Try(18, x -> x.line(i), i));
            TRIES.add(new Try(20, x -> x.thick(i), i));
            TRIES.add(new Try(23, x -> x.slug(0, i), 0, i));
            TRIES.add(new Try(23, x -> x.slug(i, 0), i, 0));
            TRIES.add(new Try(24, x -> x.count(i), i));
        }
        TRIES.add(new Try(19, LineCaster::state));
        TRIES.add(new Try(21, LineCaster::cast));
        TRIES.add(new Try(22, LineCaster::clear));
    }

    private static void tryRows() {
        for (int s = -1; s <= 4; s++) {
            for (int l = -1; l <= 3; l++) {
                int sheet = s;
                int lane = l;
                for (int i : new int[] {MIN, -1, 0, 1, 2, 18, 29, 30, 40, MAX}) {
                    TRIES.add(new Try(4, x -> x.rails(sheet, lane, i), sheet, lane, i));
                    for (int n : new int[] {-1, 0, 1, 12, 24, 25}) tryRow(sheet, lane, i, n);
                }
            }
        }
    }

    private static void tryRow(int sheet, int lane, int i, int n) {
        TRIES.add(new Try(25, x -> x.comes(sheet, lane, i, n, 1, 0), sheet, lane, i, n, 1, 0));
        TRIES.add(new Try(26, x -> x.turned(sheet, lane, i, n, 30), sheet, lane, i, n, 30));
        TRIES.add(new Try(27, x -> x.waits(sheet, lane, i, n), sheet, lane, i, n));
        TRIES.add(new Try(28, x -> x.gap(sheet, lane, i, n), sheet, lane, i, n));
    }

    private static void tryTape() {
        for (int n : new int[] {MIN, -1, 0, 1, 8, 9, MAX}) {
            for (long w : new long[] {0, 31, 32, 126, 127, -1, 0x6161616161616161L, 0x6161617F61616161L}) {
                TRIES.add(new Try(29, x -> x.type(w, n), (int) w, n));
            }
        }
        for (int gap : new int[] {MIN, -1, 0, 1, 4, 5, 30, 31, MAX}) TRIES.add(new Try(30, x -> x.plays(gap), gap));
    }

    private static void trySheets() {
        for (int s = -1; s <= 4; s++) {
            int sheet = s;
            TRIES.add(new Try(34, x -> x.drop(sheet), sheet));
            for (int l = -1; l <= 3; l++) {
                int lane = l;
                for (int i : new int[] {MIN, -1, 0, 12, 13, 40, 41, MAX}) {
                    TRIES.add(new Try(33, x -> x.sheet(sheet, lane, i), sheet, lane, i));
                    TRIES.add(new Try(35, x -> x.item(sheet, lane, i, 99), sheet, lane, i, 99));
                }
            }
            for (int t = -1; t <= 4; t++) {
                int to = t;
                for (int i : new int[] {MIN, -1, 0, 13, MAX}) {
                    for (int n : new int[] {MIN, -1, 0, 5, 41, MAX}) {
                        TRIES.add(new Try(36, x -> x.copy(sheet, i, to, 1, n), sheet, i, to, 1, n));
                        TRIES.add(new Try(36, x -> x.copy(sheet, 1, to, i, n), sheet, 1, to, i, n));
                    }
                }
            }
        }
    }

    // ---- an object on which it was called, and one on which it was not

    private static void inState(String name, Edge state, String tape, List<Try> tries) {
        int[][] untouched = answers(state, tape, x -> 0);
        int[][] withoutTape = answers(state, "", x -> 0);
        for (Try t : tries) {
            under(name + ": " + t.text);
            LineCaster x = brought(state, tape);
            int answer = t.call.on(x);
            if (answer >= 0) continue;
            dueNamed(t.promise, answer);
            boolean emptiesTape = t.promise == 30 && answer != BAD;
            int[][] want = emptiesTape ? withoutTape : untouched;
            int[][] got = answers(state, tape, t.call);
            for (int g = 0; g < GROUPS; g++) {
                due("refused by " + answer + ": row " + g + " of answers alike", 1, Arrays.equals(want[g], got[g]) ? 1 : 0);
            }
        }
    }

    private static LineCaster brought(Edge state, String tape) {
        LineCaster x = new LineCaster();
        state.on(x);
        write(x, tape);
        return x;
    }

    private static void dueNamed(int promise, int answer) {
        int kind = promise == 30 && answer <= FAULT ? FAULT : answer;
        boolean named = false;
        for (int n : NAMED[promise]) named |= n == kind;
        due("the answer " + answer + " is named", 1, named ? 1 : 0);
        SEEN[promise][-kind] = true;
    }

    private static void dueAnswers() {
        for (int p = 2; p <= PROMISES; p++) {
            under("promise " + p);
            for (int n : NAMED[p]) due("the answer " + n + " was given", 1, SEEN[p][-n] ? 1 : 0);
        }
    }

    // Asked of an object each, so that none is asked more than 512 times.
    private static final int GROUPS = 11;

    private static int[][] answers(Edge state, String tape, Call call) {
        int[][] rows = new int[GROUPS][];
        for (int g = 0; g < GROUPS; g++) {
            LineCaster x = brought(state, tape);
            call.on(x);
            Answers a = new Answers();
            ask(g, x, a);
            rows[g] = Arrays.copyOf(a.row, a.n);
        }
        return rows;
    }

    private static final class Answers {
        final int[] row = new int[512];
        int n = 0;

        void add(int answer) {
            row[n++] = answer;
        }
    }

    private static void ask(int group, LineCaster x, Answers a) {
        switch (group) {
            case 0: askSettings(x, a); return;
            case 1: for (int m = 0; m < 60; m++) a.add(x.told(m, 0)); return;
            case 2: for (int m = 0; m < 60; m++) { a.add(x.told(m, 1)); a.add(x.told(m, 2)); } return;
            case 3: for (int c = 0; c < 108; c++) a.add(x.channel(c / 9, c % 9 - 1)); return;
            case 4: askLine(x, a); return;
            case 5: case 6: case 7: case 8: askSheet(group - 5, x, a); return;
            case 9: askLater(x, a); return;
            default: askTape(x, a);
        }
    }

    private static void askSettings(LineCaster x, Answers a) {
        for (int k = 0; k < 12; k++) {
            a.add(x.letter(k, 0, 1));
            a.add(x.letter(k, 1, 1));
            a.add(x.place(k, 0, 1));
            a.add(x.place(k, 1, 1));
        }
        a.add(x.set(2, 10));
        a.add(x.set(3, 1));
        a.add(x.set(0, 1));
        a.add(x.set(1, 40));
    }

    private static void askLine(LineCaster x, Answers a) {
        for (int i = -1; i < 24; i++) a.add(x.line(i));
        for (int what = 0; what < 9; what++) a.add(x.count(what));
        for (int i = 0; i < 12; i++) a.add(x.thick(i));
        for (int s = 0; s < 40; s++) a.add(x.slug(s, -1));
        for (int i = 0; i < 24; i++) a.add(x.slug(0, i));
        a.add(x.state());
        a.add(x.clear());
        a.add(x.count(6));
    }

    private static void askSheet(int sheet, LineCaster x, Answers a) {
        for (int lane = 0; lane < 3; lane++) {
            for (int i : new int[] {0, 1, 12, 17, 24, 28}) {
                int answer = x.rails(sheet, lane, i);
                a.add(answer);
                for (int p = 0; p < 12 && answer == 12; p++) a.add(x.place(p, 0, 0));
            }
        }
        a.add(x.drop(sheet));
    }

    private static void askLater(LineCaster x, Answers a) {
        for (int t = 0; t < 40; t++) {
            a.add(x.ticks(1));
            a.add(x.line(-1));
            a.add(x.count(1));
        }
        for (int i = 0; i < 24; i++) a.add(x.line(i));
    }

    private static void askTape(LineCaster x, Answers a) {
        a.add(x.type(' ', 1));
        a.add(x.plays(1));
        a.add(x.type('a', 1));
        a.add(x.count(8));
        x.ticks(3);
        for (int i = -1; i < 24; i++) a.add(x.line(i));
    }
}
