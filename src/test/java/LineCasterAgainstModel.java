import java.util.ArrayList;
import java.util.Arrays;
import java.util.List;

/**
 * Long runs of calls, the same each time, on LineCaster and on a plain model of the document that is
 * written another way: every answer must be alike, and none may be thrown.
 */
public final class LineCasterAgainstModel {
    private static final int RUNS = 1500;
    private static final int CALLS = 512;
    private static final int[] WILD = {Integer.MIN_VALUE, Integer.MAX_VALUE, -2, -1, 0, 1, 12, 13, 24, 25, 40, 41, 127, 128};
    // calls by number, each as often as it is to be tried, for several kinds of run
    private static final int[][] WEIGHTS = {
        // letter place rails set falls astray order lost mould told wear home channel | key band ticks line state
        // thick cast clear slug count | comes turned waits gap type plays risk better | sheet drop item copy
        {3, 3, 1, 3, 2, 2, 2, 2, 8, 2, 2, 2, 2, 20, 6, 10, 3, 4, 3, 10, 2, 2, 4, 1, 1, 1, 1, 8, 5, 1, 1, 1, 1, 2, 1},
        {4, 4, 3, 1, 5, 5, 5, 5, 1, 1, 1, 1, 1, 0, 0, 0, 0, 0, 0, 0, 0, 0, 0, 0, 0, 0, 0, 0, 0, 5, 1, 2, 1, 9, 2},
        {0, 3, 1, 0, 0, 0, 0, 0, 0, 0, 0, 0, 0, 0, 0, 0, 0, 0, 0, 0, 0, 0, 0, 9, 9, 9, 9, 0, 0, 0, 0, 4, 2, 30, 5},
        {0, 1, 0, 2, 0, 0, 0, 0, 20, 1, 3, 4, 3, 40, 8, 40, 2, 2, 2, 40, 1, 2, 5, 0, 0, 0, 0, 0, 0, 0, 0, 0, 0, 0, 0},
        // to the last tick
        {0, 0, 0, 0, 0, 0, 0, 0, 3, 1, 1, 2, 1, 2, 1, 99, 1, 1, 1, 2, 3, 1, 3, 0, 0, 0, 0, 9, 9, 0, 0, 0, 0, 0, 0},
        // a bar that is often right
        {1, 3, 0, 0, 2, 9, 5, 5, 0, 0, 0, 0, 0, 0, 0, 0, 0, 0, 0, 0, 0, 0, 0, 0, 0, 0, 0, 0, 0, 5, 5, 0, 0, 0, 0},
        // lines that are often tight
        {1, 1, 0, 20, 0, 0, 0, 0, 9, 1, 1, 2, 1, 20, 20, 30, 2, 9, 30, 6, 1, 2, 5, 0, 0, 0, 0, 0, 0, 0, 0, 0, 0, 0, 0},
    };
    private static final int TO_THE_LAST_TICK = 4;
    private static final int OFTEN_RIGHT = 5;
    private static final int[] ANSWERS_SEEN = new int[35];
    private static int kind;
    private static long seed;

    public static void main(String[] args) {
        int wrong = 0;
        for (int run = 0; run < RUNS && wrong < 10; run++) {
            seed = 7919L * run + 1;
            wrong += oneRun(run) ? 0 : 1;
        }
        for (int call = 0; call < 35; call++) {
            if (ANSWERS_SEEN[call] < 1000) {
                wrong++;
                System.out.println("call " + call + " was answered only " + ANSWERS_SEEN[call] + " times without fault");
            }
        }
        System.out.println(wrong == 0 ? "as the model answers" : wrong + " runs are not as the model's");
        if (wrong != 0) System.exit(1);
    }

    private static boolean oneRun(int run) {
        LineCaster x = new LineCaster();
        Model m = new Model();
        kind = run % WEIGHTS.length;
        int[] weights = WEIGHTS[kind];
        boolean eager = run / WEIGHTS.length % 2 == 0;
        StringBuilder told = new StringBuilder();
        long[][] bar = kind == OFTEN_RIGHT && !eager ? rightBar() : new long[0][];
        for (int c = 0; c < CALLS; c++) {
            int call = c < bar.length ? c % 2 : pick(weights);
            long[] a = c < bar.length ? bar[c] : arguments(call, m, eager);
            long want = ask(m, call, a);
            long got;
            try {
                got = ask(x, call, a);
            } catch (RuntimeException thrown) {
                System.out.println("run " + run + ", call " + c + ": " + call + Arrays.toString(a) + " threw " + thrown);
                return false;
            }
            told.append(call).append(Arrays.toString(a)).append(" = ").append(got).append('\n');
            if (got >= 0) ANSWERS_SEEN[call]++;
            if (got != want) {
                System.out.println("run " + run + ", call " + c + ", due is " + want + ":\n" + told);
                return false;
            }
        }
        return true;
    }

    // ---- numbers

    private static int below(int n) {
        seed = seed * 6364136223846793005L + 1442695040888963407L;
        return (int) ((seed >>> 33) % n);
    }

    private static int pick(int[] weights) {
        int sum = 0;
        for (int w : weights) sum += w;
        int at = below(sum);
        int call = 0;
        while (at >= weights[call]) at -= weights[call++];
        return call;
    }

    private static int from(int least, int most) {
        return least + below(most - least + 1);
    }

    private static long[] arguments(int call, Model m, boolean eager) {
        long[] a = fitting(call, m, eager);
        if (a.length > 0 && below(12) == 0) a[below(a.length)] = WILD[below(WILD.length)];
        return a;
    }

    private static long[] fitting(int call, Model m, boolean eager) {
        int what = below(2);
        int mould = from(0, Math.max(0, m.moulds.size() - 1));
        int sheet = below(4);
        int lane = m.sheets[sheet] == null || below(20) == 0 ? below(3) : m.laneOf(sheet);
        int held = m.sheets[sheet] == null ? 0 : m.lengthOf(sheet);
        switch (call) {
            case 0: return row(below(12), what, what == 0 ? from(1, 40) : below(3) == 0 ? from(1, 127) : 1 << below(7));
            case 1: { int p = below(12); return row(p, what, what == 1 ? below(21) : below(8) == 0 ? below(128) : 127 - m.teeth[p]); }
            case 2: return row(sheet, lane, from(0, Math.max(0, held - 12)));
            case 3: return setting(m, eager);
            case 4: return row(below(128));
            case 5: case 14: case 17: case 19: case 20: return row();
            case 6: case 29: case 30: return row(below(12));
            case 7: return row(below(12), below(13));
            case 8: { int k = eager ? below(3) : below(12); return row(k, below(3) == 0 ? below(128) & m.teeth[k] : 0); }
            case 9: return row(mould, below(3));
            case 10: return row(mould, m.moulds.isEmpty() ? 0 : below(128) & m.moulds.get(mould).teeth);
            case 11: return row(mould);
            case 12: return row(below(12), from(-1, 8));
            case 13: return row(eager ? below(3) : below(12));
            case 15: return row(kind == TO_THE_LAST_TICK && below(8) > 0 ? 300 : below(30) == 0 ? from(1, 300) : below(3) == 0 ? from(1, 40) : from(1, 4));
            case 16: return row(from(-1, 24));
            case 18: return row(below(6));
            case 21: return row(below(Math.max(1, m.slugs.size())), from(-1, 10));
            case 22: return row(below(9));
            case 23: { int n = keys(held); return row(sheet, lane, start(held, n), n, from(1, 30), below(n)); }
            case 24: { int n = keys(held); return row(sheet, lane, start(held, n), n, from(1, 12)); }
            case 25: case 26: { int n = keys(held); return row(sheet, lane, start(held, n), n); }
            case 27: { int n = from(1, 8); return row(text(n, eager), n); }
            case 28: return row(from(1, 30));
            case 31: return row(below(4), below(3), from(12, 40));
            case 32: return row(sheet);
            case 33: return row(sheet, lane, below(Math.max(1, held)), below(15) == 0 ? below(70000) - 300 : below(13));
            case 34: return copying(m, sheet, held);
            default: throw new IllegalStateException();
        }
    }

    /** Calls of letter and place in turn for a bar that is right: sets with fewer teeth stand ahead. */
    private static long[][] rightBar() {
        List<Integer> sets = new ArrayList<>();
        while (sets.size() < 12) {
            int teeth = from(1, 127);
            if (!sets.contains(teeth)) sets.add(teeth);
        }
        sets.sort((s, t) -> Integer.bitCount(s) - Integer.bitCount(t));
        long[][] calls = new long[24][];
        for (int k = 0; k < 12; k++) {
            calls[2 * k] = row(k, 1, sets.get(k));
            calls[2 * k + 1] = row(k, 0, 127 - sets.get(k));
        }
        return calls;
    }

    private static long[] row(long... a) {
        return a;
    }

    private static int keys(int held) {
        return from(1, Math.max(1, Math.min(24, held)));
    }

    private static int start(int held, int n) {
        return from(0, Math.max(0, held - n));
    }

    private static long[] setting(Model m, boolean eager) {
        int what = below(4);
        if (what == 2) {
            int width = 0;
            int bands = 0;
            for (Thing t : m.line) {
                if (t.mould == null) bands++; else width += m.widths[t.mould.letter];
            }
            int tight = width + bands * from(m.thin, m.thick) + (eager ? 0 : from(-1, 1));
            return row(2, below(4) == 0 ? from(10, 400) : Math.max(10, tight));
        }
        return row(what, what == 3 ? (eager ? from(1, 12) : from(1, 200)) : from(1, 40));
    }

    private static long text(int n, boolean eager) {
        long w = below(5) == 0 ? -1 : 0;
        for (int b = 0; b < n; b++) {
            int kind = below(60);
            int sign = kind == 0 ? below(256) : kind < 12 ? ' ' : 'a' + below(eager ? 3 : 12);
            w = w << 8 | sign;
        }
        return w;
    }

    private static long[] copying(Model m, int from, int held) {
        int to = below(4);
        int room = m.sheets[to] == null ? 0 : m.lengthOf(to);
        int n = below(Math.min(held, room) + 1);
        return row(from, start(held, n), to, start(room, n), n);
    }

    // ---- the same call on both

    private static int ask(LineCaster x, int call, long[] l) {
        int[] a = new int[l.length];
        for (int i = 0; i < a.length; i++) a[i] = (int) l[i];
        switch (call) {
            case 0: return x.letter(a[0], a[1], a[2]);
            case 1: return x.place(a[0], a[1], a[2]);
            case 2: return x.rails(a[0], a[1], a[2]);
            case 3: return x.set(a[0], a[1]);
            case 4: return x.falls(a[0]);
            case 5: return x.astray();
            case 6: return x.order(a[0]);
            case 7: return x.lost(a[0], a[1]);
            case 8: return x.mould(a[0], a[1]);
            case 9: return x.told(a[0], a[1]);
            case 10: return x.wear(a[0], a[1]);
            case 11: return x.home(a[0]);
            case 12: return x.channel(a[0], a[1]);
            case 13: return x.key(a[0]);
            case 14: return x.band();
            case 15: return x.ticks(a[0]);
            case 16: return x.line(a[0]);
            case 17: return x.state();
            case 18: return x.thick(a[0]);
            case 19: return x.cast();
            case 20: return x.clear();
            case 21: return x.slug(a[0], a[1]);
            case 22: return x.count(a[0]);
            case 23: return x.comes(a[0], a[1], a[2], a[3], a[4], a[5]);
            case 24: return x.turned(a[0], a[1], a[2], a[3], a[4]);
            case 25: return x.waits(a[0], a[1], a[2], a[3]);
            case 26: return x.gap(a[0], a[1], a[2], a[3]);
            case 27: return x.type(l[0], a[1]);
            case 28: return x.plays(a[0]);
            case 29: return x.risk(a[0]);
            case 30: return x.better(a[0]);
            case 31: return x.sheet(a[0], a[1], a[2]);
            case 32: return x.drop(a[0]);
            case 33: return x.item(a[0], a[1], a[2], a[3]);
            default: return x.copy(a[0], a[1], a[2], a[3], a[4]);
        }
    }

    private static int ask(Model m, int call, long[] l) {
        int[] a = new int[l.length];
        for (int i = 0; i < a.length; i++) a[i] = (int) l[i];
        try {
            if (call <= 12) return m.letters(call, a);
            if (call <= 22) return m.lines(call, a);
            if (call <= 30) return m.rows(call, a, l);
            return m.papers(call, a);
        } catch (Answer answer) {
            return answer.number;
        } catch (NullPointerException e) {
            return -11;
        } catch (ClassCastException | ArrayStoreException e) {
            return -12;
        } catch (IndexOutOfBoundsException e) {
            return -13;
        } catch (NegativeArraySizeException e) {
            return -14;
        }
    }

    // ---- the model: things that know where they are, real arrays whose faults the machine finds

    private static final class Answer extends RuntimeException {
        private static final long serialVersionUID = 1;
        final int number;

        Answer(int number) {
            super(null, null, false, false);
            this.number = number;
        }
    }

    private static final class Mould {
        int number, letter, teeth, where;
    }

    private static final class Thing {
        Mould mould;
        int tick, place;
    }

    private static final class Model {
        final int[] widths = new int[12], teeth = new int[12], rails = new int[12], reach = new int[13];
        int thin = 4, thick = 12, measure = 100, cycle = 20, now = 0, jammed = 0;
        final List<Mould> moulds = new ArrayList<>();
        final List<List<Mould>> channels = new ArrayList<>();
        final List<Thing> line = new ArrayList<>(), air = new ArrayList<>(), hung = new ArrayList<>();
        final List<String> slugs = new ArrayList<>();
        String tape = "";
        final Object[] sheets = new Object[4];

        Model() {
            for (int k = 0; k < 12; k++) {
                widths[k] = 10;
                teeth[k] = k + 1;
                rails[k] = 127 ^ (k + 1);
                reach[k] = k;
                channels.add(new ArrayList<>());
            }
        }

        static void need(boolean holds, int number) {
            if (!holds) throw new Answer(number);
        }

        static void range(int v, int least, int most) {
            need(v >= least && v <= most, -1);
        }

        static int fall(int[] rails, int t) {
            int p = 0;
            while (p < 12 && (rails[p] & t) > 0) p++;
            return p;
        }

        int letters(int call, int[] a) {
            switch (call) {
                case 0: {
                    range(a[0], 0, 11);
                    range(a[1], 0, 1);
                    range(a[2], 1, a[1] == 0 ? 40 : 127);
                    return swap(a[1] == 0 ? widths : teeth, a[0], a[2]);
                }
                case 1: {
                    range(a[0], 0, 11);
                    range(a[1], 0, 1);
                    range(a[2], 0, a[1] == 0 ? 127 : 20);
                    return swap(a[1] == 0 ? rails : reach, a[0], a[2]);
                }
                case 2: {
                    range(a[0], 0, 3);
                    int[] read = items(a[0], a[1], a[2], 12);
                    for (int v : read) need(v >= 0 && v <= 127, -2);
                    System.arraycopy(read, 0, rails, 0, 12);
                    return 12;
                }
                case 3: return setting(a[0], a[1]);
                case 4: range(a[0], 0, 127); return fall(rails, a[0]);
                case 5: return astray(teeth, rails);
                case 6: return order(a[0]);
                case 7: {
                    range(a[0], 0, 11);
                    range(a[1], 0, 12);
                    int gone = a[1] == 12 ? 0 : teeth[a[0]] & rails[a[1]];
                    return fall(rails, teeth[a[0]] & ~gone) == a[1] ? gone : -4;
                }
                case 8: {
                    range(a[0], 0, 11);
                    need((a[1] | teeth[a[0]]) == teeth[a[0]], -1);
                    need(moulds.size() < 60, -3);
                    Mould m = new Mould();
                    m.number = moulds.size();
                    m.letter = a[0];
                    m.teeth = teeth[a[0]] - a[1];
                    moulds.add(m);
                    into(m, m.letter);
                    return m.number;
                }
                case 9: {
                    range(a[0], 0, moulds.size() - 1);
                    range(a[1], 0, 2);
                    Mould m = moulds.get(a[0]);
                    return new int[] {m.letter, m.teeth, m.where}[a[1]];
                }
                case 10: {
                    range(a[0], 0, moulds.size() - 1);
                    Mould m = moulds.get(a[0]);
                    need((a[1] | m.teeth) == m.teeth, -1);
                    return m.teeth -= a[1];
                }
                case 11: {
                    range(a[0], 0, moulds.size() - 1);
                    Mould m = moulds.get(a[0]);
                    need(m.where == 12, -2);
                    need(into(m, m.letter), -3);
                    return channels.get(m.letter).size();
                }
                default: {
                    range(a[0], 0, 11);
                    need(a[1] >= -1, -1);
                    List<Mould> c = channels.get(a[0]);
                    if (a[1] < 0) return c.size();
                    need(a[1] < c.size(), -4);
                    return c.get(a[1]).number;
                }
            }
        }

        boolean into(Mould m, int place) {
            m.where = 12;
            if (place == 12 || channels.get(place).size() == 8) return false;
            channels.get(place).add(m);
            m.where = place;
            return true;
        }

        static int swap(int[] row, int at, int v) {
            int was = row[at];
            row[at] = v;
            return was;
        }

        int setting(int what, int v) {
            range(what, 0, 3);
            int was;
            if (what == 0) { range(v, 1, 40); need(v <= thick, -1); was = thin; thin = v; }
            else if (what == 1) { range(v, 1, 40); need(v >= thin, -1); was = thick; thick = v; }
            else if (what == 2) { range(v, 10, 400); was = measure; measure = v; }
            else { range(v, 1, 200); was = cycle; cycle = v; }
            return was;
        }

        static int astray(int[] teeth, int[] rails) {
            for (int k = 0; k < 12; k++) if (fall(rails, teeth[k]) != k) return k;
            return -4;
        }

        // the first row found by trying, letter by letter, whose every letter falls where it stands
        int order(int i) {
            range(i, 0, 11);
            int[] row = new int[12];
            need(longer(row, 0, 0), -4);
            return row[i];
        }

        boolean longer(int[] row, int n, int used) {
            if (n == 12) return true;
            for (int k = 0; k < 12; k++) {
                if ((used >> k & 1) == 1) continue;
                row[n] = k;
                if (standsSoFar(row, n, used | 1 << k) && longer(row, n + 1, used | 1 << k)) return true;
            }
            return false;
        }

        // no letter that comes later would fall at this place
        boolean standsSoFar(int[] row, int n, int used) {
            for (int k = 0; k < 12; k++) {
                if ((used >> k & 1) == 0 && (teeth[k] & (127 ^ teeth[row[n]])) == 0) return false;
            }
            return true;
        }

        // ---- lines

        int lines(int call, int[] a) {
            switch (call) {
                case 13: range(a[0], 0, 11); return key(a[0]);
                case 14: return key(12);
                case 15: {
                    range(a[0], 1, 300);
                    need(now + a[0] <= 99999, -3);
                    for (int t = 0; t < a[0]; t++) tick();
                    return now;
                }
                case 16: {
                    need(a[0] >= -1, -1);
                    if (a[0] < 0) return line.size();
                    need(a[0] < line.size(), -4);
                    return line.get(a[0]).mould == null ? 100 : line.get(a[0]).mould.number;
                }
                case 17: return state();
                case 18: {
                    int b = bands(line);
                    range(a[0], 0, b - 1);
                    need(state() == 0, -2);
                    int[] each = new int[b];
                    for (int left = measure - width(), at = 0; left > 0; left--, at = (at + 1) % b) each[at]++;
                    return each[a[0]];
                }
                case 19: return cast();
                case 20: {
                    need(air.isEmpty(), -2);
                    int n = line.size() - bands(line);
                    for (Thing t : line) if (t.mould != null) t.mould.where = 12;
                    line.clear();
                    return n;
                }
                case 21: {
                    range(a[0], 0, slugs.size() - 1);
                    range(a[1], -1, slugs.get(a[0]).length() - 1);
                    return a[1] < 0 ? slugs.get(a[0]).length() : slugs.get(a[0]).charAt(a[1]);
                }
                default: return count(a[0]);
            }
        }

        int key(int place) {
            if (place < 12) need(!channels.get(place).isEmpty(), -4);
            else need(bands(line) + bands(air) < 12, -4);
            need(line.size() + air.size() < 24, -3);
            Thing t = new Thing();
            t.tick = now + 2 + reach[place];
            if (place < 12) {
                t.mould = channels.get(place).remove(0);
                t.mould.where = 13;
            }
            air.add(t);
            return t.tick;
        }

        static int bands(List<Thing> row) {
            int b = 0;
            for (Thing t : row) if (t.mould == null) b++;
            return b;
        }

        int width() {
            int w = 0;
            for (Thing t : line) if (t.mould != null) w += widths[t.mould.letter];
            return w;
        }

        int state() {
            need(air.isEmpty(), -2);
            need(!line.isEmpty(), -4);
            int least = width() + bands(line) * thin, most = width() + bands(line) * thick;
            return most < measure ? 1 : least > measure ? 2 : 0;
        }

        void tick() {
            now++;
            for (Thing t : new ArrayList<>(air)) {
                if (t.tick == now) { air.remove(t); line.add(t); }
            }
            for (Thing t : new ArrayList<>(hung)) {
                if (t.tick != now) continue;
                hung.remove(t);
                if (!into(t.mould, t.place) && t.place < 12) jammed++;
            }
        }

        int cast() {
            need(state() == 0, -2);
            need(slugs.size() < 40, -3);
            StringBuilder text = new StringBuilder();
            int i = 0;
            for (Thing t : line) {
                text.append(t.mould == null ? ' ' : "abcdefghijkl".charAt(t.mould.letter));
                if (t.mould == null) continue;
                t.place = fall(rails, t.mould.teeth);
                t.tick = now + cycle + i++ + t.place;
                t.mould.where = 14;
                hung.add(t);
            }
            line.clear();
            slugs.add(text.toString());
            return slugs.size() - 1;
        }

        int count(int what) {
            range(what, 0, 8);
            int inChannels = 0, boxed = 0;
            for (List<Mould> c : channels) inChannels += c.size();
            int out = line.size() - bands(line) + air.size() - bands(air);
            boxed = moulds.size() - inChannels - out - hung.size();
            int free = 12 - bands(line) - bands(air);
            return new int[] {moulds.size(), inChannels, boxed, out, hung.size(), slugs.size(), free, jammed, now}[what];
        }

        // ---- rows of keys, teeth

        int rows(int call, int[] a, long[] l) {
            switch (call) {
                case 23: {
                    range(a[4], 1, 30);
                    range(a[3], 1, 24);
                    range(a[5], 0, a[3] - 1);
                    return sorted(keys(a), a[4]).get(a[5])[1];
                }
                case 24: range(a[4], 1, 30); return turned(keys(a), a[4]);
                case 25: return waits(keys(a));
                case 26: {
                    int[] keys = keys(a);
                    for (int gap = 1; gap <= 30; gap++) if (turned(keys, gap) == 0) return gap;
                    return -4;
                }
                case 27: {
                    range(a[1], 1, 8);
                    String more = "";
                    for (int b = 0; b < a[1]; b++) {
                        int sign = (int) (l[0] >> 8 * b & 0xFF);
                        range(sign, 32, 126);
                        more = (char) sign + more;
                    }
                    need(tape.length() + more.length() <= 60, -3);
                    tape += more;
                    return tape.length();
                }
                case 28: return plays(a[0]);
                case 29: range(a[0], 0, 11); return risk(teeth, rails, a[0]);
                default: {
                    range(a[0], 0, 11);
                    int best = -4, least = 1000;
                    for (int t = 127; t >= 1; t--) {
                        int[] mine = teeth.clone(), held = rails.clone();
                        mine[a[0]] = t;
                        held[a[0]] = 127 - t;
                        if (astray(mine, held) != -4) continue;
                        int sum = 0;
                        for (int k = 0; k < 12; k++) sum += risk(mine, held, k);
                        if (sum <= least) { least = sum; best = t; }
                    }
                    return best;
                }
            }
        }

        static int risk(int[] teeth, int[] rails, int k) {
            int n = 0;
            for (int left = teeth[k]; left > 0; left &= left - 1) {
                int p = fall(rails, teeth[k] ^ (left & -left));
                if (p < 12 && p != k) n++;
            }
            return n;
        }

        int[] keys(int[] a) {
            range(a[0], 0, 3);
            range(a[3], 1, 24);
            int[] keys = items(a[0], a[1], a[2], a[3]);
            for (int v : keys) need(v >= 0 && v <= 12, -2);
            return keys;
        }

        List<int[]> sorted(int[] keys, int gap) {
            List<int[]> coming = new ArrayList<>();
            for (int j = 0; j < keys.length; j++) coming.add(new int[] {j * gap + reach[keys[j]], j});
            coming.sort((p, q) -> p[0] - q[0]);
            return coming;
        }

        int turned(int[] keys, int gap) {
            List<int[]> coming = sorted(keys, gap);
            int n = 0;
            for (int p = 0; p < keys.length; p++) {
                for (int q = p + 1; q < keys.length; q++) if (coming.get(p)[1] > coming.get(q)[1]) n++;
            }
            return n;
        }

        int waits(int[] keys) {
            int at = 0;
            for (int j = 1; j < keys.length; j++) {
                int comes = at + reach[keys[j - 1]];
                at++;
                while (at + reach[keys[j]] < comes) at++;
            }
            return at;
        }

        int plays(int gap) {
            range(gap, 1, 30);
            String text = tape;
            tape = "";
            need(!text.isEmpty(), -20);
            for (int i = 0; i < text.length(); i++) need("abcdefghijkl ".indexOf(text.charAt(i)) >= 0, -20 - i);
            need(now + gap * (text.length() - 1) <= 99999, -3);
            int n = 0;
            while (n < text.length()) {
                for (int t = 0; n > 0 && t < gap; t++) tick();
                try {
                    key("abcdefghijkl ".indexOf(text.charAt(n)));
                } catch (Answer none) {
                    return n;
                }
                n++;
            }
            return n;
        }

        // ---- sheets

        int[] items(int sheet, int lane, int i, int n) {
            range(lane, 0, 2);
            if (sheets[sheet] == null) throw new NullPointerException();
            int[] read = new int[n];
            if (lane == 0) for (int j = 0; j < n; j++) read[j] = ((byte[]) sheets[sheet])[i + j];
            else if (lane == 1) for (int j = 0; j < n; j++) read[j] = ((short[]) sheets[sheet])[i + j];
            else for (int j = 0; j < n; j++) read[j] = ((int[]) sheets[sheet])[i + j];
            return read;
        }

        int laneOf(int sheet) {
            return sheets[sheet] instanceof byte[] ? 0 : sheets[sheet] instanceof short[] ? 1 : 2;
        }

        int lengthOf(int sheet) {
            return java.lang.reflect.Array.getLength(sheets[sheet]);
        }

        int papers(int call, int[] a) {
            range(a[0], 0, 3);
            switch (call) {
                case 31: {
                    range(a[1], 0, 2);
                    need(a[2] <= 40, -1);
                    sheets[a[0]] = a[1] == 0 ? new byte[a[2]] : a[1] == 1 ? new short[a[2]] : new int[a[2]];
                    return a[2];
                }
                case 32: {
                    int had = lengthOf(a[0]);
                    sheets[a[0]] = null;
                    return had;
                }
                case 33: {
                    range(a[1], 0, 2);
                    if (a[1] == 0) ((byte[]) sheets[a[0]])[a[2]] = (byte) a[3];
                    else if (a[1] == 1) ((short[]) sheets[a[0]])[a[2]] = (short) a[3];
                    else ((int[]) sheets[a[0]])[a[2]] = a[3];
                    return 1;
                }
                default: {
                    range(a[2], 0, 3);
                    System.arraycopy(sheets[a[0]], a[1], sheets[a[2]], a[3], a[4]);
                    return a[4];
                }
            }
        }
    }
}
