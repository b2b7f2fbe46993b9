/**
 * Letters that go home by their teeth: a machine that casts lines.
 *
 * The public methods test their arguments in the order in which the document names the answers
 * below 0, and hand on only numbers that are in range; the classes inside rely on that.
 */
public final class LineCaster {
    public static final int BAD = -1, NOT = -2, FULL = -3, NONE = -4, NULL = -11, CAST = -12, INDEX = -13, SIZE = -14;

    private static final int LETTERS = 12;
    private static final int PLACES = 12;
    private static final int TOOTH_PLACES = 7;
    private static final int ALL_TEETH = 127;
    private static final int WIDEST = 40;
    private static final int FARTHEST_REACH = 20;
    private static final int MORE_THAN_ALL_RISKS = LETTERS * TOOTH_PLACES + 1;

    private static final int MOST_MOULDS = 60;
    private static final int CHANNEL_HOLDS = 8;
    private static final int IN_BOX = 12;
    private static final int IN_LINE = 13;
    private static final int ON_BAR = 14;

    private static final int LINE_HOLDS = 24;
    private static final int BANDS = 12;
    private static final int BAND_THING = 100;
    private static final int FALL_TICKS = 2;
    private static final int LAST_TICK = 99999;
    private static final int MOST_TICKS = 300;
    private static final int MOST_SLUGS = 40;

    private static final int TIGHT = 0, SHORT = 1, LONG = 2;
    private static final int THIN_SET = 0, THICK_SET = 1, MEASURE_SET = 2, CYCLE_SET = 3;

    private static final int MOST_KEYS = 24;
    private static final int BAND_KEY = 12;
    private static final int WIDEST_GAP = 30;

    private static final int TAPE_HOLDS = 60;
    private static final int BLANK = 32;
    private static final int LAST_SIGN = 126;
    private static final int FIRST_FAULT = -20;

    private static final int SHEETS = 4;
    private static final int LANES = 3;
    private static final int BYTES = 0, SHORTS = 1;
    private static final int SHEET_HOLDS = 40;
    private static final int FINE = 0;

    private final Bar bar = new Bar();
    private final Stock stock = new Stock();
    private final Line composed = new Line();
    private final Carriage carriage = new Carriage();
    private final Slugs slugs = new Slugs();
    private final Tape tape = new Tape();
    private final Sheet[] sheets = new Sheet[SHEETS];
    private final int[] widths = new int[LETTERS];
    private final int[] reaches = new int[PLACES];
    private final int[] settings = {4, 12, 100, 20};
    private final int[] rowReaches = new int[MOST_KEYS];
    private int now = 0;

    public LineCaster() {
        for (int k = 0; k < LETTERS; k++) {
            widths[k] = 10;
        }
        for (int p = 0; p < PLACES; p++) {
            reaches[p] = p;
        }
        for (int s = 0; s < SHEETS; s++) {
            sheets[s] = new Sheet();
        }
    }

    // ---- 1 letters, the bar, moulds

    public int letter(int letter, int what, int v) {
        if (!isLetter(letter)) {
            return BAD;
        }
        if (what == 0) {
            return v < 1 || v > WIDEST ? BAD : exchange(widths, letter, v);
        }
        if (what == 1) {
            return v < 1 || v > ALL_TEETH ? BAD : exchange(bar.teeth, letter, v);
        }
        return BAD;
    }

    public int place(int place, int what, int v) {
        if (!isPlace(place)) {
            return BAD;
        }
        if (what == 0) {
            return isTeeth(v) ? exchange(bar.rails, place, v) : BAD;
        }
        if (what == 1) {
            return v < 0 || v > FARTHEST_REACH ? BAD : exchange(reaches, place, v);
        }
        return BAD;
    }

    public int rails(int sheet, int lane, int i) {
        int fault = sheetFault(sheet, lane, i, PLACES);
        if (fault != FINE) {
            return fault;
        }
        int[] items = sheets[sheet].items;
        for (int p = 0; p < PLACES; p++) {
            if (!isTeeth(items[i + p])) {
                return NOT;
            }
        }
        for (int p = 0; p < PLACES; p++) {
            bar.rails[p] = items[i + p];
        }
        return PLACES;
    }

    public int set(int what, int v) {
        if (what < THIN_SET || what > CYCLE_SET || !settingFits(what, v)) {
            return BAD;
        }
        return exchange(settings, what, v);
    }

    public int falls(int teeth) {
        return isTeeth(teeth) ? bar.fallOf(teeth) : BAD;
    }

    public int astray() {
        return bar.firstAstray();
    }

    public int order(int i) {
        return isPlace(i) ? bar.letterInOrder(i) : BAD;
    }

    public int lost(int letter, int place) {
        if (!isLetter(letter) || !isPlace(place) && place != IN_BOX) {
            return BAD;
        }
        return bar.fewestLost(letter, place);
    }

    public int mould(int letter, int worn) {
        if (!isLetter(letter)) {
            return BAD;
        }
        int whole = bar.teeth[letter];
        if ((worn & ~whole) != 0) {
            return BAD;
        }
        return stock.newMould(letter, whole & ~worn);
    }

    public int told(int mould, int what) {
        if (!stock.knows(mould)) {
            return BAD;
        }
        switch (what) {
            case 0:
                return stock.letters[mould];
            case 1:
                return stock.teeth[mould];
            case 2:
                return stock.where[mould];
            default:
                return BAD;
        }
    }

    public int wear(int mould, int teeth) {
        if (!stock.knows(mould) || (teeth & ~stock.teeth[mould]) != 0) {
            return BAD;
        }
        stock.teeth[mould] &= ~teeth;
        return stock.teeth[mould];
    }

    public int home(int mould) {
        if (!stock.knows(mould)) {
            return BAD;
        }
        if (stock.where[mould] != IN_BOX) {
            return NOT;
        }
        int channel = stock.letters[mould];
        return stock.lay(mould, channel) ? stock.held[channel] : FULL;
    }

    public int channel(int place, int i) {
        if (!isPlace(place) || i < -1) {
            return BAD;
        }
        if (i == -1) {
            return stock.held[place];
        }
        return i < stock.held[place] ? stock.channels[place][i] : NONE;
    }

    // ---- 2 lines

    public int key(int place) {
        if (!isPlace(place)) {
            return BAD;
        }
        if (stock.held[place] == 0) {
            return NONE;
        }
        if (composed.isFull()) {
            return FULL;
        }
        int due = now + FALL_TICKS + reaches[place];
        composed.letGo(stock.takeFirst(place), due);
        return due;
    }

    public int band() {
        if (composed.bands >= BANDS) {
            return NONE;
        }
        if (composed.isFull()) {
            return FULL;
        }
        int due = now + FALL_TICKS;
        composed.letGo(BAND_THING, due);
        return due;
    }

    public int ticks(int n) {
        if (n < 1 || n > MOST_TICKS) {
            return BAD;
        }
        if (now + n > LAST_TICK) {
            return FULL;
        }
        goOn(n);
        return now;
    }

    public int line(int i) {
        if (i < -1) {
            return BAD;
        }
        if (i == -1) {
            return composed.come;
        }
        return i < composed.come ? composed.things[i] : NONE;
    }

    public int state() {
        return tightness();
    }

    public int thick(int i) {
        int bands = composed.bandsCome();
        if (i < 0 || i >= bands) {
            return BAD;
        }
        if (tightness() != TIGHT) {
            return NOT;
        }
        int room = settings[MEASURE_SET] - composedWidth();
        int more = i < room % bands ? 1 : 0;
        return room / bands + more;
    }

    public int cast() {
        int found = tightness();
        if (found < 0) {
            return found;
        }
        if (found != TIGHT) {
            return NOT;
        }
        if (slugs.isFull()) {
            return FULL;
        }
        castSlug();
        composed.empty();
        return slugs.count - 1;
    }

    public int clear() {
        if (composed.falling > 0) {
            return NOT;
        }
        int moulds = 0;
        for (int i = 0; i < composed.come; i++) {
            if (composed.things[i] != BAND_THING) {
                stock.where[composed.things[i]] = IN_BOX;
                moulds++;
            }
        }
        composed.empty();
        return moulds;
    }

    public int slug(int slug, int i) {
        if (slug < 0 || slug >= slugs.count || i < -1 || i >= slugs.lengths[slug]) {
            return BAD;
        }
        return i == -1 ? slugs.lengths[slug] : slugs.signs[slug][i];
    }

    public int count(int what) {
        switch (what) {
            case 0:
                return stock.moulds;
            case 1:
                return stock.countBetween(0, PLACES - 1);
            case 2:
                return stock.countBetween(IN_BOX, IN_BOX);
            case 3:
                return stock.countBetween(IN_LINE, IN_LINE);
            case 4:
                return stock.countBetween(ON_BAR, ON_BAR);
            case 5:
                return slugs.count;
            case 6:
                return BANDS - composed.bands;
            case 7:
                return carriage.jammed;
            case 8:
                return now;
            default:
                return BAD;
        }
    }

    // ---- 3 rows of keys, teeth

    public int comes(int sheet, int lane, int i, int n, int gap, int k) {
        if (!isGap(gap) || k < 0 || k >= n) {
            return BAD;
        }
        int fault = readRow(sheet, lane, i, n);
        return fault != FINE ? fault : keyThatComes(n, gap, k);
    }

    public int turned(int sheet, int lane, int i, int n, int gap) {
        if (!isGap(gap)) {
            return BAD;
        }
        int fault = readRow(sheet, lane, i, n);
        return fault != FINE ? fault : turnedPairs(n, gap);
    }

    public int waits(int sheet, int lane, int i, int n) {
        int fault = readRow(sheet, lane, i, n);
        if (fault != FINE) {
            return fault;
        }
        int ticks = 0;
        for (int j = 1; j < n; j++) {
            ticks += Math.max(1, rowReaches[j - 1] - rowReaches[j]);
        }
        return ticks;
    }

    public int gap(int sheet, int lane, int i, int n) {
        int fault = readRow(sheet, lane, i, n);
        if (fault != FINE) {
            return fault;
        }
        for (int gap = 1; gap <= WIDEST_GAP; gap++) {
            if (turnedPairs(n, gap) == 0) {
                return gap;
            }
        }
        return NONE;
    }

    public int type(long w, int n) {
        if (n < 1 || n > 8) {
            return BAD;
        }
        for (int b = 0; b < n; b++) {
            int sign = byteOf(w, b);
            if (sign < BLANK || sign > LAST_SIGN) {
                return BAD;
            }
        }
        if (tape.length + n > TAPE_HOLDS) {
            return FULL;
        }
        for (int b = n - 1; b >= 0; b--) {
            tape.append(byteOf(w, b));
        }
        return tape.length;
    }

    public int plays(int gap) {
        if (!isGap(gap)) {
            return BAD;
        }
        int n = tape.length;
        int unplayable = tape.firstUnplayable();
        tape.length = 0;
        if (n == 0 || unplayable < n) {
            return FIRST_FAULT - unplayable;
        }
        if (now + (n - 1) * gap > LAST_TICK) {
            return FULL;
        }
        return playTape(n, gap);
    }

    public int risk(int letter) {
        return isLetter(letter) ? bar.teethAtRisk(letter) : BAD;
    }

    public int better(int letter) {
        return isLetter(letter) ? bar.betterTeeth(letter) : BAD;
    }

    // ---- 4 sheets

    public int sheet(int sheet, int lane, int n) {
        if (!isSheet(sheet) || !isLane(lane) || n > SHEET_HOLDS) {
            return BAD;
        }
        if (n < 0) {
            return SIZE;
        }
        sheets[sheet].hold(lane, n);
        return n;
    }

    public int drop(int sheet) {
        if (!isSheet(sheet)) {
            return BAD;
        }
        if (!sheets[sheet].holdsRow) {
            return NULL;
        }
        sheets[sheet].holdsRow = false;
        return sheets[sheet].length;
    }

    public int item(int sheet, int lane, int i, int v) {
        int fault = sheetFault(sheet, lane, i, 1);
        if (fault != FINE) {
            return fault;
        }
        sheets[sheet].items[i] = lowestBits(lane, v);
        return 1;
    }

    public int copy(int from, int i, int to, int j, int n) {
        if (!isSheet(from) || !isSheet(to)) {
            return BAD;
        }
        Sheet source = sheets[from];
        Sheet target = sheets[to];
        if (!source.holdsRow || !target.holdsRow) {
            return NULL;
        }
        if (source.lane != target.lane) {
            return CAST;
        }
        if (!source.spans(i, n) || !target.spans(j, n)) {
            return INDEX;
        }
        System.arraycopy(source.items, i, target.items, j, n);
        return n;
    }

    // ---- what numbers may be

    private static boolean isLetter(int letter) {
        return letter >= 0 && letter < LETTERS;
    }

    private static boolean isPlace(int place) {
        return place >= 0 && place < PLACES;
    }

    private static boolean isTeeth(int teeth) {
        return teeth >= 0 && teeth <= ALL_TEETH;
    }

    private static boolean isGap(int gap) {
        return gap >= 1 && gap <= WIDEST_GAP;
    }

    private static boolean isSheet(int sheet) {
        return sheet >= 0 && sheet < SHEETS;
    }

    private static boolean isLane(int lane) {
        return lane >= 0 && lane < LANES;
    }

    private boolean settingFits(int what, int v) {
        switch (what) {
            case THIN_SET:
                return v >= 1 && v <= settings[THICK_SET];
            case THICK_SET:
                return v >= settings[THIN_SET] && v <= WIDEST;
            case MEASURE_SET:
                return v >= 10 && v <= 400;
            default:
                return v >= 1 && v <= 200;
        }
    }

    private static int exchange(int[] row, int at, int v) {
        int before = row[at];
        row[at] = v;
        return before;
    }

    // ---- time, the line

    private void goOn(int n) {
        for (int t = 0; t < n; t++) {
            now++;
            composed.takeDue(now);
            carriage.dropDue(now, stock);
        }
    }

    private int composedWidth() {
        int width = 0;
        for (int i = 0; i < composed.come; i++) {
            if (composed.things[i] != BAND_THING) {
                width += widths[stock.letters[composed.things[i]]];
            }
        }
        return width;
    }

    private int tightness() {
        if (composed.falling > 0) {
            return NOT;
        }
        if (composed.come == 0) {
            return NONE;
        }
        int width = composedWidth();
        int bands = composed.bandsCome();
        if (width + bands * settings[THICK_SET] < settings[MEASURE_SET]) {
            return SHORT;
        }
        if (width + bands * settings[THIN_SET] > settings[MEASURE_SET]) {
            return LONG;
        }
        return TIGHT;
    }

    private void castSlug() {
        slugs.begin();
        int hung = 0;
        for (int i = 0; i < composed.come; i++) {
            int thing = composed.things[i];
            if (thing == BAND_THING) {
                slugs.append(BLANK);
            } else {
                slugs.append('a' + stock.letters[thing]);
                hangOnBar(thing, hung);
                hung++;
            }
        }
    }

    // Where it falls is settled here, so that rails and teeth changed later do not turn it aside.
    private void hangOnBar(int mould, int nth) {
        int place = bar.fallOf(stock.teeth[mould]);
        stock.where[mould] = ON_BAR;
        carriage.hang(mould, place, now + settings[CYCLE_SET] + nth + place);
    }

    // ---- rows of keys, the tape

    private int readRow(int sheet, int lane, int i, int n) {
        if (n < 1 || n > MOST_KEYS) {
            return BAD;
        }
        int fault = sheetFault(sheet, lane, i, n);
        if (fault != FINE) {
            return fault;
        }
        int[] items = sheets[sheet].items;
        for (int j = 0; j < n; j++) {
            int key = items[i + j];
            if (!isPlace(key) && key != BAND_KEY) {
                return NOT;
            }
            rowReaches[j] = key == BAND_KEY ? 0 : reaches[key];
        }
        return FINE;
    }

    private boolean comesAhead(int later, int earlier, int gap) {
        return later * gap + rowReaches[later] < earlier * gap + rowReaches[earlier];
    }

    private int turnedPairs(int n, int gap) {
        int pairs = 0;
        for (int later = 1; later < n; later++) {
            for (int earlier = 0; earlier < later; earlier++) {
                if (comesAhead(later, earlier, gap)) {
                    pairs++;
                }
            }
        }
        return pairs;
    }

    private int keyThatComes(int n, int gap, int k) {
        for (int j = 0; j < n; j++) {
            if (comersAheadOf(j, n, gap) == k) {
                return j;
            }
        }
        return NONE;
    }

    private int comersAheadOf(int j, int n, int gap) {
        int ahead = 0;
        for (int other = 0; other < n; other++) {
            boolean first = other < j ? !comesAhead(j, other, gap) : other > j && comesAhead(other, j, gap);
            if (first) {
                ahead++;
            }
        }
        return ahead;
    }

    private static int byteOf(long w, int b) {
        return (int) (w >>> (8 * b)) & 255;
    }

    // The ticks ahead of a key go on even if it then can't be let go: only then is that known.
    private int playTape(int n, int gap) {
        for (int played = 0; played < n; played++) {
            if (played > 0) {
                goOn(gap);
            }
            int sign = tape.signs[played];
            int answer = sign == BLANK ? band() : key(sign - 'a');
            if (answer < 0) {
                return played;
            }
        }
        return n;
    }

    // ---- sheets

    private int sheetFault(int sheet, int lane, int i, int n) {
        if (!isSheet(sheet) || !isLane(lane)) {
            return BAD;
        }
        Sheet asked = sheets[sheet];
        if (!asked.holdsRow) {
            return NULL;
        }
        if (asked.lane != lane) {
            return CAST;
        }
        return asked.spans(i, n) ? FINE : INDEX;
    }

    private static int lowestBits(int lane, int v) {
        if (lane == BYTES) {
            return (byte) v;
        }
        return lane == SHORTS ? (short) v : v;
    }

    /** The letters' teeth, and the rails by which what is carried falls. */
    private static final class Bar {
        final int[] teeth = new int[LETTERS];
        final int[] rails = new int[PLACES];

        Bar() {
            for (int k = 0; k < LETTERS; k++) {
                teeth[k] = k + 1;
                rails[k] = ALL_TEETH & ~teeth[k];
            }
        }

        int fallOf(int carried) {
            for (int p = 0; p < PLACES; p++) {
                if ((rails[p] & carried) == 0) {
                    return p;
                }
            }
            return IN_BOX;
        }

        int firstAstray() {
            for (int k = 0; k < LETTERS; k++) {
                if (fallOf(teeth[k]) != k) {
                    return k;
                }
            }
            return NONE;
        }

        int fewestLost(int letter, int place) {
            int whole = teeth[letter];
            int best = NONE;
            for (int gone = 0; gone <= whole; gone++) {
                boolean fits = (gone & ~whole) == 0 && fallOf(whole & ~gone) == place;
                if (fits && (best == NONE || Integer.bitCount(gone) < Integer.bitCount(best))) {
                    best = gone;
                }
            }
            return best;
        }

        int letterInOrder(int i) {
            if (hasTwins()) {
                return NONE;
            }
            int placed = 0;
            for (int at = 0; at < i; at++) {
                placed |= 1 << leastReady(placed);
            }
            return leastReady(placed);
        }

        private boolean hasTwins() {
            for (int k = 1; k < LETTERS; k++) {
                for (int other = 0; other < k; other++) {
                    if (teeth[k] == teeth[other]) {
                        return true;
                    }
                }
            }
            return false;
        }

        // Of different sets a least one is always ready, so the last letter need not be asked.
        private int leastReady(int placed) {
            for (int k = 0; k < LETTERS - 1; k++) {
                if ((placed & 1 << k) == 0 && isReady(k, placed)) {
                    return k;
                }
            }
            return LETTERS - 1;
        }

        // A letter would catch every letter whose teeth are among its own, so those stand ahead of it.
        private boolean isReady(int letter, int placed) {
            for (int k = 0; k < LETTERS; k++) {
                boolean waiting = k != letter && (placed & 1 << k) == 0;
                if (waiting && (teeth[k] & ~teeth[letter]) == 0) {
                    return false;
                }
            }
            return true;
        }

        int teethAtRisk(int letter) {
            int risks = 0;
            for (int t = 0; t < TOOTH_PLACES; t++) {
                int tooth = 1 << t;
                if ((teeth[letter] & tooth) != 0) {
                    int place = fallOf(teeth[letter] & ~tooth);
                    risks += place == IN_BOX || place == letter ? 0 : 1;
                }
            }
            return risks;
        }

        private int allAtRisk() {
            int risks = 0;
            for (int k = 0; k < LETTERS; k++) {
                risks += teethAtRisk(k);
            }
            return risks;
        }

        // Tried on the bar itself and put back, so that trying makes no second bar.
        int betterTeeth(int letter) {
            int teethBefore = teeth[letter];
            int railsBefore = rails[letter];
            int best = NONE;
            int fewest = MORE_THAN_ALL_RISKS;
            for (int tried = 1; tried <= ALL_TEETH; tried++) {
                teeth[letter] = tried;
                rails[letter] = ALL_TEETH & ~tried;
                int risks = firstAstray() == NONE ? allAtRisk() : MORE_THAN_ALL_RISKS;
                if (risks < fewest) {
                    fewest = risks;
                    best = tried;
                }
            }
            teeth[letter] = teethBefore;
            rails[letter] = railsBefore;
            return best;
        }
    }

    /** All moulds, and the channels; the box is where a mould is, no row of its own. */
    private static final class Stock {
        final int[] letters = new int[MOST_MOULDS];
        final int[] teeth = new int[MOST_MOULDS];
        final int[] where = new int[MOST_MOULDS];
        final int[][] channels = new int[PLACES][CHANNEL_HOLDS];
        final int[] held = new int[PLACES];
        int moulds = 0;

        boolean knows(int mould) {
            return mould >= 0 && mould < moulds;
        }

        int newMould(int letter, int itsTeeth) {
            if (moulds >= MOST_MOULDS) {
                return FULL;
            }
            int mould = moulds;
            moulds++;
            letters[mould] = letter;
            teeth[mould] = itsTeeth;
            where[mould] = IN_BOX;
            lay(mould, letter);
            return mould;
        }

        boolean lay(int mould, int place) {
            if (held[place] >= CHANNEL_HOLDS) {
                return false;
            }
            channels[place][held[place]] = mould;
            held[place]++;
            where[mould] = place;
            return true;
        }

        int takeFirst(int place) {
            if (held[place] == 0) {
                return NONE;
            }
            int[] row = channels[place];
            int mould = row[0];
            held[place]--;
            System.arraycopy(row, 1, row, 0, held[place]);
            where[mould] = IN_LINE;
            return mould;
        }

        int countBetween(int first, int last) {
            int found = 0;
            for (int m = 0; m < moulds; m++) {
                if (where[m] >= first && where[m] <= last) {
                    found++;
                }
            }
            return found;
        }
    }

    /** What has come to the line, and what is still falling, in the order in which it was let go. */
    private static final class Line {
        final int[] things = new int[LINE_HOLDS];
        final int[] fallingThings = new int[LINE_HOLDS];
        final int[] dueTicks = new int[LINE_HOLDS];
        int come = 0;
        int falling = 0;
        int bands = 0;

        boolean isFull() {
            return come + falling >= LINE_HOLDS;
        }

        void letGo(int thing, int due) {
            if (isFull()) {
                return;
            }
            fallingThings[falling] = thing;
            dueTicks[falling] = due;
            falling++;
            if (thing == BAND_THING) {
                bands++;
            }
        }

        void takeDue(int tick) {
            int left = 0;
            for (int f = 0; f < falling; f++) {
                if (dueTicks[f] == tick && come < LINE_HOLDS) {
                    things[come] = fallingThings[f];
                    come++;
                } else {
                    fallingThings[left] = fallingThings[f];
                    dueTicks[left] = dueTicks[f];
                    left++;
                }
            }
            falling = left;
        }

        int bandsCome() {
            int found = 0;
            for (int i = 0; i < come; i++) {
                if (things[i] == BAND_THING) {
                    found++;
                }
            }
            return found;
        }

        // Only when nothing is falling, so no band is out any more.
        void empty() {
            come = 0;
            bands = 0;
        }
    }

    /** The moulds on the bar, in the order in which they were cast. */
    private static final class Carriage {
        final int[] hangingMoulds = new int[MOST_MOULDS];
        final int[] targets = new int[MOST_MOULDS];
        final int[] dueTicks = new int[MOST_MOULDS];
        int hanging = 0;
        int jammed = 0;

        void hang(int mould, int target, int due) {
            if (hanging >= MOST_MOULDS) {
                return;
            }
            hangingMoulds[hanging] = mould;
            targets[hanging] = target;
            dueTicks[hanging] = due;
            hanging++;
        }

        void dropDue(int tick, Stock stock) {
            int left = 0;
            for (int h = 0; h < hanging; h++) {
                if (dueTicks[h] == tick) {
                    letFall(hangingMoulds[h], targets[h], stock);
                } else {
                    hangingMoulds[left] = hangingMoulds[h];
                    targets[left] = targets[h];
                    dueTicks[left] = dueTicks[h];
                    left++;
                }
            }
            hanging = left;
        }

        private void letFall(int mould, int target, Stock stock) {
            stock.where[mould] = IN_BOX;
            if (target != IN_BOX && !stock.lay(mould, target)) {
                jammed++;
            }
        }
    }

    /** The slugs as they were cast. */
    private static final class Slugs {
        final byte[][] signs = new byte[MOST_SLUGS][LINE_HOLDS];
        final int[] lengths = new int[MOST_SLUGS];
        int count = 0;

        boolean isFull() {
            return count >= MOST_SLUGS;
        }

        void begin() {
            if (!isFull()) {
                count++;
            }
        }

        void append(int sign) {
            int slug = count - 1;
            if (slug >= 0 && lengths[slug] < LINE_HOLDS) {
                signs[slug][lengths[slug]] = (byte) sign;
                lengths[slug]++;
            }
        }
    }

    /** What has been typed and not yet been played. */
    private static final class Tape {
        final int[] signs = new int[TAPE_HOLDS];
        int length = 0;

        void append(int sign) {
            if (length < TAPE_HOLDS) {
                signs[length] = sign;
                length++;
            }
        }

        int firstUnplayable() {
            for (int i = 0; i < length; i++) {
                boolean isKey = signs[i] >= 'a' && signs[i] < 'a' + PLACES;
                if (!isKey && signs[i] != BLANK) {
                    return i;
                }
            }
            return length;
        }
    }

    /** A sheet: its row is made once and used again, as whether it holds one is told apart. */
    private static final class Sheet {
        final int[] items = new int[SHEET_HOLDS];
        boolean holdsRow = false;
        int lane = 0;
        int length = 0;

        void hold(int newLane, int n) {
            holdsRow = true;
            lane = newLane;
            length = n;
            for (int i = 0; i < SHEET_HOLDS; i++) {
                items[i] = 0;
            }
        }

        // Asked so that no sum can wrap around.
        boolean spans(int i, int n) {
            return i >= 0 && n >= 0 && n <= length && i <= length - n;
        }
    }
}
