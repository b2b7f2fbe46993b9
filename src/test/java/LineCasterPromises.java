/** For each promise of the document: ordinary inputs, the edges that it names, and wrong inputs. */
public final class LineCasterPromises extends Checks {
    public static void main(String[] args) {
        under("promise 1"); newObject();
        under("promise 2"); letter();
        under("promise 3"); place();
        under("promise 4"); rails();
        under("promise 5"); set();
        under("promise 6"); falls();
        under("promise 7"); astray();
        under("promise 8"); order();
        under("promise 9"); lost();
        under("promise 10"); mould();
        under("promise 11"); told();
        under("promise 12"); wear();
        under("promise 13"); home();
        under("promise 14"); channel();
        under("promise 15"); key();
        under("promise 16"); band();
        under("promise 17"); ticks(); lastTick();
        under("promise 18"); line();
        under("promise 19"); state();
        under("promise 20"); thick();
        under("promise 21"); cast(); castGoesHome(); castSettlesWhere(); castJams(); castTies(); castAll(); castFull();
        under("promise 22"); clear();
        under("promise 23"); slug();
        under("promise 24"); count();
        under("promise 25"); comes();
        under("promise 26"); turned();
        under("promise 27"); waits();
        under("promise 28"); gap();
        under("promise 29"); type();
        under("promise 30"); plays(); playsStops(); playsFull();
        under("promise 31"); risk();
        under("promise 32"); better();
        under("promise 33"); sheet();
        under("promise 34"); drop();
        under("promise 35"); item();
        under("promise 36"); copy();
        end("all promises hold");
    }

    // ---- 1 letters, the bar, moulds

    private static void newObject() {
        LineCaster x = new LineCaster();
        dueCounts(x, 0, 0, 0, 0, 0, 0, 12, 0, 0);
        for (int k = 0; k < 12; k++) {
            due("width of " + k, 10, x.letter(k, 0, 10));
            due("teeth of " + k, k + 1, x.letter(k, 1, k + 1));
            due("rails at " + k, 127 - (k + 1), x.place(k, 0, 127 - (k + 1)));
            due("reach of " + k, k, x.place(k, 1, k));
            dueChannel(x, k);
        }
        due("thin", 4, x.set(0, 4));
        due("thick", 12, x.set(1, 12));
        due("measure", 100, x.set(2, 100));
        due("cycle", 20, x.set(3, 20));
        due("told(0, 0)", BAD, x.told(0, 0));
        dueLine(x);
        due("state()", NONE, x.state());
        due("slug(0, -1)", BAD, x.slug(0, -1));
        for (int s = 0; s < 4; s++) due("drop(" + s + ")", NULL, x.drop(s));
        due("plays(1)", -20, x.plays(1));
        LineCaster other = withMoulds(0);
        due("a mould of another object", 0, x.count(0));
        due("its own", 1, other.count(0));
    }

    private static void letter() {
        LineCaster x = new LineCaster();
        due("width 1", 10, x.letter(0, 0, 1));
        due("width 40", 1, x.letter(0, 0, 40));
        due("width 41", BAD, x.letter(0, 0, 41));
        due("width 0", BAD, x.letter(0, 0, 0));
        due("width -1", BAD, x.letter(0, 0, -1));
        due("width 7", 40, x.letter(0, 0, 7));
        due("teeth 127", 12, x.letter(11, 1, 127));
        due("teeth 1", 127, x.letter(11, 1, 1));
        due("teeth 128", BAD, x.letter(11, 1, 128));
        due("teeth 0", BAD, x.letter(11, 1, 0));
        due("teeth MIN", BAD, x.letter(11, 1, MIN));
        due("teeth 41", 1, x.letter(11, 1, 41));
        for (int bad : new int[] {-1, 12, MIN, MAX}) {
            due("letter " + bad, BAD, x.letter(bad, 0, 5));
            due("letter " + bad, BAD, x.letter(bad, 1, 5));
        }
        for (int bad : new int[] {-1, 2, MIN, MAX}) due("what " + bad, BAD, x.letter(0, bad, 5));
        due("rails stay", 127 - 12, x.place(11, 0, 0));
        due("the width of another stays", 10, x.letter(1, 0, 10));
    }

    private static void place() {
        LineCaster x = new LineCaster();
        due("rails 0", 126, x.place(0, 0, 0));
        due("rails 127", 0, x.place(0, 0, 127));
        due("rails 128", BAD, x.place(0, 0, 128));
        due("rails -1", BAD, x.place(0, 0, -1));
        due("rails 5", 127, x.place(0, 0, 5));
        due("reach 0", 11, x.place(11, 1, 0));
        due("reach 20", 0, x.place(11, 1, 20));
        due("reach 21", BAD, x.place(11, 1, 21));
        due("reach -1", BAD, x.place(11, 1, -1));
        due("reach 4", 20, x.place(11, 1, 4));
        for (int bad : new int[] {-1, 12, MIN, MAX}) {
            due("place " + bad, BAD, x.place(bad, 0, 5));
            due("place " + bad, BAD, x.place(bad, 1, 5));
        }
        for (int bad : new int[] {-1, 2, MIN, MAX}) due("what " + bad, BAD, x.place(0, bad, 5));
        due("teeth stay", 1, x.letter(0, 1, 1));
    }

    private static void rails() {
        for (int lane = 0; lane < 3; lane++) {
            LineCaster x = new LineCaster();
            fill(x, 2, lane, -1, 11, 12, 13, 14, 15, 16, 17, 18, 19, 0, 127, 20, 128);
            due("rails from 1", 12, x.rails(2, lane, 1));
            int[] want = {11, 12, 13, 14, 15, 16, 17, 18, 19, 0, 127, 20};
            for (int p = 0; p < 12; p++) due("rails at " + p, want[p], x.place(p, 0, 7));
            due("one below 0", NOT, x.rails(2, lane, 0));
            due("one above 127", NOT, x.rails(2, lane, 2));
            for (int p = 0; p < 12; p++) due("rails still at " + p, 7, x.place(p, 0, 7));
            due("one too far", INDEX, x.rails(2, lane, 3));
            due("i -1", INDEX, x.rails(2, lane, -1));
            due("i MAX", INDEX, x.rails(2, lane, MAX));
            due("i MIN", INDEX, x.rails(2, lane, MIN));
            due("another lane ahead of the index", CAST, x.rails(2, (lane + 1) % 3, 99));
            due("nothing ahead of the index", NULL, x.rails(3, lane, 99));
            due("lane 3 ahead of nothing", BAD, x.rails(3, 3, 0));
            due("lane -1", BAD, x.rails(2, -1, 1));
            due("sheet 4", BAD, x.rails(4, lane, 1));
            due("sheet -1", BAD, x.rails(-1, lane, 1));
            due("an empty row", 0, x.sheet(1, lane, 0));
            due("from an empty row", INDEX, x.rails(1, lane, 0));
        }
        LineCaster y = new LineCaster();
        fill(y, 0, 0, 0, 0, 0, 0, 0, 0, 0, 0, 0, 0, 0, 128);
        due("128 as a byte is -128", NOT, y.rails(0, 0, 0));
        y.item(0, 0, 11, 256 + 9);
        due("265 as a byte is 9", 12, y.rails(0, 0, 0));
        due("rails at 11", 9, y.place(11, 0, 0));
    }

    private static void set() {
        LineCaster x = new LineCaster();
        due("thin above thick", BAD, x.set(0, 13));
        due("thin as thick", 4, x.set(0, 12));
        due("thick below thin", BAD, x.set(1, 11));
        due("thick as thin", 12, x.set(1, 12));
        due("thick 40", 12, x.set(1, 40));
        due("thick 41", BAD, x.set(1, 41));
        due("thin 40", 12, x.set(0, 40));
        due("thin 41", BAD, x.set(0, 41));
        due("thin 0", BAD, x.set(0, 0));
        due("thin 1", 40, x.set(0, 1));
        due("thick 0", BAD, x.set(1, 0));
        due("thick 1", 40, x.set(1, 1));
        due("thin is 1", 1, x.set(0, 1));
        due("measure 9", BAD, x.set(2, 9));
        due("measure 10", 100, x.set(2, 10));
        due("measure 401", BAD, x.set(2, 401));
        due("measure 400", 10, x.set(2, 400));
        due("measure is 400", 400, x.set(2, 50));
        due("cycle 0", BAD, x.set(3, 0));
        due("cycle 1", 20, x.set(3, 1));
        due("cycle 201", BAD, x.set(3, 201));
        due("cycle 200", 1, x.set(3, 200));
        due("cycle is 200", 200, x.set(3, 200));
        for (int bad : new int[] {-1, 4, MIN, MAX}) due("what " + bad, BAD, x.set(bad, 10));
        for (int what = 0; what < 4; what++) {
            due("MIN", BAD, x.set(what, MIN));
            due("MAX", BAD, x.set(what, MAX));
        }
    }

    private static void falls() {
        LineCaster x = new LineCaster();
        due("no teeth", 0, x.falls(0));
        int[] want = {0, 1, 2, 3, 4, 5, 6, 7, 8, 9, 10, 11};
        for (int k = 0; k < 12; k++) due("falls(" + (k + 1) + ")", want[k], x.falls(k + 1));
        due("held everywhere", 12, x.falls(13));
        due("all teeth", 12, x.falls(127));
        due("128", BAD, x.falls(128));
        due("-1", BAD, x.falls(-1));
        due("MIN", BAD, x.falls(MIN));
        x.place(11, 0, 0);
        due("at the last place", 11, x.falls(127));
        due("still at 5", 5, x.falls(6));
        x.place(3, 0, 0);
        due("at the first place that lets it", 3, x.falls(127));
        for (int p = 0; p < 12; p++) x.place(p, 0, 127);
        due("no teeth are held nowhere", 0, x.falls(0));
        due("any tooth is held", 12, x.falls(64));
    }

    private static void astray() {
        LineCaster x = new LineCaster();
        due("right at first", NONE, x.astray());
        x.letter(11, 1, 1);
        due("l falls at a", 11, x.astray());
        x.letter(4, 1, 64);
        due("e falls into the box", 4, x.astray());
        x.place(0, 0, 127);
        due("a is held at home", 0, x.astray());
        x.place(0, 0, 126);
        x.letter(4, 1, 5);
        x.letter(11, 1, 12);
        due("right again", NONE, x.astray());
    }

    private static void order() {
        LineCaster x = new LineCaster();
        for (int i = 0; i < 12; i++) due("order(" + i + ")", i, x.order(i));
        for (int bad : new int[] {-1, 12, MIN, MAX}) due("order(" + bad + ")", BAD, x.order(bad));
        x.letter(0, 1, 20);
        dueOrder(x, 1, 2, 3, 0, 4, 5, 6, 7, 8, 9, 10, 11);
        x.letter(0, 1, 127);
        dueOrder(x, 1, 2, 3, 4, 5, 6, 7, 8, 9, 10, 11, 0);
        for (int k = 0; k < 7; k++) x.letter(k, 1, 127 >> k);
        for (int k = 7; k < 12; k++) x.letter(k, 1, 64 + (2 << (k - 7)));
        dueOrder(x, 6, 5, 4, 3, 2, 1, 7, 8, 9, 10, 11, 0);
        for (int p = 0; p < 12; p++) x.place(p, 0, 0);
        due("rails do not matter", 6, x.order(0));
        x.letter(3, 1, 127);
        for (int i = 0; i < 12; i++) due("two alike: order(" + i + ")", NONE, x.order(i));
        due("BAD ahead of NONE", BAD, x.order(12));
        LineCaster y = new LineCaster();
        y.letter(0, 1, 2);
        for (int i = 0; i < 12; i++) due("a and b alike: order(" + i + ")", NONE, y.order(i));
    }

    private static void lost() {
        LineCaster x = new LineCaster();
        due("none need be lost", 0, x.lost(6, 6));
        due("g at a", 6, x.lost(6, 0));
        due("g at b", 5, x.lost(6, 1));
        due("g at c", 4, x.lost(6, 2));
        due("g at d", 3, x.lost(6, 3));
        due("g at f", 1, x.lost(6, 5));
        due("g behind its home", NONE, x.lost(6, 7));
        due("g in the box", NONE, x.lost(6, 12));
        due("h at a", 8, x.lost(7, 0));
        x.letter(6, 1, 127);
        due("whole in the box", 0, x.lost(6, 12));
        due("all but 12", 115, x.lost(6, 11));
        due("all but 7", 120, x.lost(6, 6));
        x.place(0, 0, 127);
        due("all are lost", 127, x.lost(6, 0));
        x.place(11, 0, 0);
        due("nowhere sooner", 0, x.lost(6, 11));
        due("no longer in the box", NONE, x.lost(6, 12));
        for (int bad : new int[] {-1, 12, MIN, MAX}) due("letter " + bad, BAD, x.lost(bad, 0));
        for (int bad : new int[] {-1, 13, MIN, MAX}) due("place " + bad, BAD, x.lost(0, bad));
    }

    private static void mould() {
        LineCaster x = new LineCaster();
        for (int m = 0; m < 8; m++) due("mould(3, 0)", m, x.mould(3, 0));
        due("channel d is full", 8, x.channel(3, -1));
        due("the ninth", 8, x.mould(3, 4));
        due("lies in the box", 12, x.told(8, 2));
        due("worn", 0, x.told(8, 1));
        due("no other channel", 0, x.channel(0, -1));
        due("a tooth it has not", BAD, x.mould(6, 8));
        due("one it has, one it has not", BAD, x.mould(6, 9));
        due("worn -1", BAD, x.mould(6, -1));
        due("worn MIN", BAD, x.mould(6, MIN));
        for (int bad : new int[] {-1, 12, MIN, MAX}) due("letter " + bad, BAD, x.mould(bad, 0));
        due("all teeth worn", 9, x.mould(6, 7));
        due("comes home all the same", 6, x.told(9, 2));
        x.letter(6, 1, 127);
        due("teeth as they are then", 10, x.mould(6, 64));
        due("new teeth", 63, x.told(10, 1));
        due("old teeth", 0, x.told(9, 1));
        for (int m = 11; m < 60; m++) due("mould(11, 0)", m, x.mould(11, 0));
        due("60", FULL, x.mould(0, 0));
        due("BAD ahead of FULL", BAD, x.mould(0, 2));
        due("count(0)", 60, x.count(0));
    }

    private static void told() {
        LineCaster x = withMoulds(4, 2);
        due("letter", 4, x.told(0, 0));
        due("teeth", 5, x.told(0, 1));
        due("where", 4, x.told(0, 2));
        due("letter", 2, x.told(1, 0));
        due("teeth", 3, x.told(1, 1));
        due("where", 2, x.told(1, 2));
        x.letter(4, 1, 127);
        due("teeth stay", 5, x.told(0, 1));
        x.key(2);
        due("falling", 13, x.told(1, 2));
        x.ticks(4);
        due("in the line", 13, x.told(1, 2));
        x.set(2, 10);
        x.cast();
        due("on the bar", 14, x.told(1, 2));
        x.ticks(21);
        due("still on the bar", 14, x.told(1, 2));
        x.ticks(1);
        due("home", 2, x.told(1, 2));
        x.key(2);
        x.ticks(4);
        x.clear();
        due("in the box", 12, x.told(1, 2));
        for (int bad : new int[] {-1, 2, 59, 60, MIN, MAX}) due("mould " + bad, BAD, x.told(bad, 0));
        for (int bad : new int[] {-1, 3, MIN, MAX}) due("what " + bad, BAD, x.told(0, bad));
    }

    private static void wear() {
        LineCaster x = withMoulds(6, 6);
        due("nothing", 7, x.wear(0, 0));
        due("one tooth", 5, x.wear(0, 2));
        due("the same again", BAD, x.wear(0, 2));
        due("one it has, one not", BAD, x.wear(0, 6));
        due("changes nothing", 5, x.told(0, 1));
        due("-1", BAD, x.wear(0, -1));
        due("MIN", BAD, x.wear(0, MIN));
        due("all", 0, x.wear(0, 5));
        due("nothing of none", 0, x.wear(0, 0));
        due("the other", 7, x.told(1, 1));
        due("its letter", 7, x.letter(6, 1, 7));
        for (int bad : new int[] {-1, 2, MIN, MAX}) due("mould " + bad, BAD, x.wear(bad, 0));
    }

    private static void home() {
        LineCaster x = withMoulds(5, 5, 5, 5, 5, 5, 5, 5, 5);
        due("full", FULL, x.home(8));
        due("in a channel", NOT, x.home(0));
        for (int bad : new int[] {-1, 9, MIN, MAX}) due("mould " + bad, BAD, x.home(bad));
        x.key(5);
        due("falling", NOT, x.home(0));
        due("room", 8, x.home(8));
        dueChannel(x, 5, 1, 2, 3, 4, 5, 6, 7, 8);
        x.ticks(7);
        due("in the line", NOT, x.home(0));
        x.key(5);
        x.key(5);
        x.ticks(7);
        x.clear();
        due("behind", 7, x.home(2));
        due("behind", 8, x.home(0));
        due("no more", FULL, x.home(1));
        dueChannel(x, 5, 3, 4, 5, 6, 7, 8, 2, 0);
        due("the box", 1, x.count(2));
    }

    private static void channel() {
        LineCaster x = withMoulds(1, 0, 1);
        dueChannel(x, 0, 1);
        dueChannel(x, 1, 0, 2);
        dueChannel(x, 2);
        dueChannel(x, 11);
        due("far beyond", NONE, x.channel(1, MAX));
        due("beyond 8", NONE, x.channel(1, 8));
        due("-2", BAD, x.channel(1, -2));
        due("MIN", BAD, x.channel(1, MIN));
        for (int bad : new int[] {-1, 12, MIN, MAX}) due("place " + bad, BAD, x.channel(bad, -1));
        x.key(1);
        dueChannel(x, 1, 2);
    }

    // ---- 2 lines

    private static void key() {
        LineCaster x = withMoulds(0, 11, 11, 4);
        x.ticks(5);
        due("a", 7, x.key(0));
        due("l", 18, x.key(11));
        x.place(11, 1, 20);
        due("l from farther", 27, x.key(11));
        due("dry", NONE, x.key(11));
        due("dry at first", NONE, x.key(7));
        for (int bad : new int[] {-1, 12, MIN, MAX}) due("place " + bad, BAD, x.key(bad));
        x.place(4, 1, 0);
        due("reach 0", 7, x.key(4));
        x.ticks(2);
        dueLine(x, 0, 3);
        x.ticks(11);
        dueLine(x, 0, 3, 1);
        x.ticks(9);
        dueLine(x, 0, 3, 1, 2);
        LineCaster y = new LineCaster();
        for (int m = 0; m < 25; m++) y.mould(m / 8, 0);
        for (int m = 0; m < 12; m++) y.key(m / 8);
        y.ticks(20);
        for (int m = 12; m < 24; m++) due("room for 24", 22 + m / 8, y.key(m / 8));
        due("24 things", FULL, y.key(3));
        due("it stays", 1, y.channel(3, -1));
        due("dry ahead of full", NONE, y.key(0));
        y.ticks(20);
        due("24 have come", FULL, y.key(3));
        due("BAD ahead of full", BAD, y.key(12));
    }

    private static void band() {
        LineCaster x = new LineCaster();
        x.ticks(3);
        for (int b = 0; b < 12; b++) due("band()", 5, x.band());
        due("none is free", NONE, x.band());
        x.ticks(2);
        due("none is free in the line", NONE, x.band());
        due("clear()", 0, x.clear());
        due("free again", 7, x.band());
        due("free bands", 11, x.count(6));
        LineCaster y = new LineCaster();
        for (int m = 0; m < 24; m++) y.mould(m / 8, 0);
        for (int m = 0; m < 23; m++) y.key(m / 8);
        due("the 24th thing", 2, y.band());
        due("full", FULL, y.band());
        due("full for keys", FULL, y.key(2));
        due("free bands", 11, y.count(6));
        LineCaster z = new LineCaster();
        for (int m = 0; m < 24; m++) z.mould(m / 8, 0);
        for (int b = 0; b < 12; b++) z.band();
        for (int m = 0; m < 12; m++) z.key(m / 8);
        due("no free one ahead of full", NONE, z.band());
    }

    private static void ticks() {
        LineCaster x = withMoulds(2, 0, 1, 0);
        x.place(2, 1, 1);
        due("c at 3", 3, x.key(2));
        due("a at 2", 2, x.key(0));
        due("b at 3", 3, x.key(1));
        due("ticks(1)", 1, x.ticks(1));
        due("a at 3", 3, x.key(0));
        due("a blank at 3", 3, x.band());
        dueLine(x);
        due("ticks(1)", 2, x.ticks(1));
        dueLine(x, 1);
        due("ticks(1)", 3, x.ticks(1));
        dueLine(x, 1, 0, 2, 3, 100);
        for (int bad : new int[] {0, -1, 301, MIN, MAX}) due("ticks(" + bad + ")", BAD, x.ticks(bad));
        due("now", 3, x.count(8));
        due("300", 303, x.ticks(300));
    }

    private static void lastTick() {
        LineCaster x = withMoulds(3, 3);
        for (int n = 1; n <= 333; n++) x.ticks(300);
        due("now", 99900, x.count(8));
        due("100 more", FULL, x.ticks(100));
        due("300 more", FULL, x.ticks(300));
        due("BAD ahead of full", BAD, x.ticks(301));
        due("99 more", 99999, x.ticks(99));
        due("1 more", FULL, x.ticks(1));
        due("a key at the last tick", 100004, x.key(3));
        due("falls for ever", 13, x.told(0, 2));
        write(x, "d");
        due("one key played needs no tick", 1, x.plays(30));
        write(x, "  ");
        due("two need one", FULL, x.plays(1));
        due("now", 99999, x.count(8));
    }

    private static void line() {
        LineCaster x = withMoulds(0, 1);
        x.key(1);
        x.key(0);
        x.band();
        dueLine(x);
        x.ticks(2);
        dueLine(x, 0, 100);
        x.ticks(1);
        dueLine(x, 0, 100, 1);
        due("beyond", NONE, x.line(24));
        due("far beyond", NONE, x.line(MAX));
        due("-2", BAD, x.line(-2));
        due("MIN", BAD, x.line(MIN));
        x.clear();
        dueLine(x);
    }

    private static void state() {
        LineCaster x = withMoulds(0, 1);
        due("empty", NONE, x.state());
        x.key(0);
        due("falling into an empty line", NOT, x.state());
        x.ticks(2);
        x.set(2, 10);
        due("as wide as the measure, no bands", 0, x.state());
        x.set(2, 11);
        due("too short by 1", 1, x.state());
        x.set(2, 10);
        x.letter(0, 0, 11);
        due("too long by 1", 2, x.state());
        x.letter(0, 0, 10);
        x.letter(1, 0, 3);
        x.key(1);
        x.band();
        x.band();
        x.ticks(2);
        due("one still falls", NOT, x.state());
        x.ticks(1);
        x.set(2, 13 + 24);
        due("as thick as can be", 0, x.state());
        x.set(2, 13 + 25);
        due("short", 1, x.state());
        x.set(2, 13 + 8);
        due("as thin as can be", 0, x.state());
        x.set(2, 13 + 7);
        due("long", 2, x.state());
        x.set(0, 3);
        due("thinner bands", 0, x.state());
        x.clear();
        due("empty again", NONE, x.state());
        x.band();
        x.ticks(2);
        due("a band alone", 0, (x.set(2, 12) == 20) ? x.state() : 99);
    }

    private static void thick() {
        LineCaster x = withMoulds(0);
        due("no band", BAD, x.thick(0));
        x.band();
        due("still falling, none in the line", BAD, x.thick(0));
        x.band();
        x.band();
        x.key(0);
        x.ticks(2);
        x.set(2, 10 + 20);
        due("first", 7, x.thick(0));
        due("second", 7, x.thick(1));
        due("third", 6, x.thick(2));
        for (int bad : new int[] {-1, 3, MIN, MAX}) due("thick(" + bad + ")", BAD, x.thick(bad));
        x.set(2, 10 + 12);
        for (int i = 0; i < 3; i++) due("thin", 4, x.thick(i));
        x.set(2, 10 + 36);
        for (int i = 0; i < 3; i++) due("thick", 12, x.thick(i));
        x.set(2, 10 + 13);
        due("one more to the first", 5, x.thick(0));
        due("not to the second", 4, x.thick(1));
        x.set(2, 10 + 37);
        due("short", NOT, x.thick(0));
        due("BAD ahead of NOT", BAD, x.thick(3));
        x.set(2, 10 + 11);
        due("long", NOT, x.thick(2));
        x.set(2, 10 + 20);
        x.band();
        due("falling", NOT, x.thick(0));
        due("the falling one is no band of the line", BAD, x.thick(3));
    }

    private static void cast() {
        LineCaster x = withMoulds(0, 1);
        due("empty", NONE, x.cast());
        x.key(0);
        due("falling", NOT, x.cast());
        x.band();
        x.key(1);
        x.ticks(2);
        due("one still falls", NOT, x.cast());
        x.ticks(1);
        due("short", NOT, x.cast());
        x.set(2, 20);
        due("long", NOT, x.cast());
        due("changes nothing", 3, x.line(-1));
        x.set(2, 26);
        due("tight", 0, x.cast());
        dueSlug(x, 0, "a b");
        dueLine(x);
        due("empty again", NONE, x.cast());
        due("free bands", 12, x.count(6));
        due("on the bar", 2, x.count(4));
        due("slugs", 1, x.count(5));
        x.set(2, 24);
        x.band();
        x.band();
        x.ticks(2);
        due("bands alone", 1, x.cast());
        dueSlug(x, 1, "  ");
        due("on the bar still", 2, x.count(4));
    }

    private static void castGoesHome() {
        LineCaster x = withMoulds(0, 1, 2);
        x.wear(1, 2);
        x.letter(2, 0, 20);
        x.place(0, 1, 0);
        x.place(1, 1, 0);
        x.place(2, 1, 0);
        x.key(2);
        x.band();
        x.key(1);
        x.key(0);
        x.ticks(2);
        x.set(2, 50);
        x.set(3, 3);
        x.place(0, 0, 127);
        due("cast()", 0, x.cast());
        // c, the 0th, falls at 2 in 3 + 0 + 2; b, the 1st, has no teeth and falls at 0 in 3 + 1 + 0;
        // a, the 2nd, is held at 0, falls at 2 in 3 + 2 + 2
        x.ticks(3);
        due("on the bar", 3, x.count(4));
        x.ticks(1);
        due("b is astray", 0, x.told(1, 2));
        due("c is on the bar", 14, x.told(2, 2));
        x.ticks(1);
        due("c is home", 2, x.told(2, 2));
        x.ticks(1);
        due("a is on the bar", 14, x.told(0, 2));
        x.ticks(1);
        due("a is astray", 2, x.told(0, 2));
        dueChannel(x, 0, 1);
        dueChannel(x, 1);
        dueChannel(x, 2, 2, 0);
        LineCaster y = withMoulds(6);
        y.place(6, 0, 127);
        y.place(6, 1, 0);
        y.set(2, 10);
        y.set(3, 1);
        y.key(6);
        y.ticks(2);
        y.cast();
        y.ticks(12);
        due("to the box in 1 + 12", 14, y.told(0, 2));
        y.ticks(1);
        due("in the box", 12, y.told(0, 2));
        due("not jammed", 0, y.count(7));
    }

    private static void castSettlesWhere() {
        LineCaster x = withMoulds(4);
        x.set(2, 10);
        x.key(4);
        x.ticks(6);
        x.cast();
        x.place(0, 0, 0);
        x.set(3, 1);
        x.letter(4, 1, 1);
        due("wears on the bar", 0, x.wear(0, 5));
        x.ticks(23);
        due("still on the bar", 14, x.told(0, 2));
        x.ticks(1);
        due("where the rails of then let it", 4, x.told(0, 2));
    }

    private static void castJams() {
        LineCaster x = withMoulds(0, 0, 0, 0, 0, 0, 0, 0, 0, 0);
        x.set(2, 10);
        x.key(0);
        x.ticks(2);
        due("home(8)", 8, x.home(8));
        x.cast();
        x.ticks(19);
        due("on the bar", 14, x.told(0, 2));
        x.ticks(1);
        due("jammed", 1, x.count(7));
        due("lies in the box", 12, x.told(0, 2));
        dueChannel(x, 0, 1, 2, 3, 4, 5, 6, 7, 8);
        x.key(0);
        x.ticks(2);
        x.cast();
        due("home(9) in between", 8, x.home(9));
        x.key(0);
        x.ticks(20);
        due("room was there then", 1, x.count(7));
        dueChannel(x, 0, 3, 4, 5, 6, 7, 8, 9, 1);
        due("home(0)", FULL, x.home(0));
    }

    private static void castTies() {
        LineCaster x = withMoulds(0, 0);
        x.set(2, 10);
        x.key(0);
        x.ticks(2);
        x.clear();
        x.home(0);
        dueChannel(x, 0, 1, 0);
        x.key(0);
        x.ticks(2);
        x.cast();
        x.set(3, 10);
        x.key(0);
        x.ticks(10);
        x.cast();
        x.ticks(9);
        dueChannel(x, 0);
        x.ticks(1);
        dueChannel(x, 0, 1, 0);
        // what comes to the line at a tick comes ahead of what falls from the bar at it
        LineCaster y = withMoulds(0, 0);
        y.set(2, 10);
        y.set(3, 2);
        y.key(0);
        y.ticks(2);
        y.cast();
        y.key(0);
        y.ticks(2);
        dueLine(y, 1);
        dueChannel(y, 0, 0);
    }

    private static void castAll() {
        LineCaster x = new LineCaster();
        for (int m = 0; m < 60; m++) x.mould(m % 12, 0);
        x.set(3, 200);
        for (int m = 0; m < 60; m++) {
            x.key(m % 12);
            if (m % 20 == 19) {
                x.ticks(20);
                x.set(2, 200);
                due("cast()", m / 20, x.cast());
            }
        }
        due("all on the bar", 60, x.count(4));
        x.ticks(300);
        due("all are home", 60, x.count(1));
        for (int p = 0; p < 12; p++) due("five each", 5, x.channel(p, -1));
    }

    private static void castFull() {
        LineCaster x = new LineCaster();
        x.set(2, 10);
        for (int s = 0; s < 40; s++) {
            x.band();
            x.ticks(2);
            due("cast()", s, x.cast());
        }
        due("empty ahead of full", NONE, x.cast());
        x.band();
        due("falling ahead of full", NOT, x.cast());
        x.ticks(2);
        due("40 slugs", FULL, x.cast());
        due("it stays", 1, x.line(-1));
        due("free bands", 11, x.count(6));
        x.set(2, 13);
        due("not tight ahead of full", NOT, x.cast());
        due("slugs", 40, x.count(5));
        dueSlug(x, 39, " ");
    }

    private static void clear() {
        LineCaster x = withMoulds(0, 1, 2);
        due("empty", 0, x.clear());
        x.key(1);
        x.band();
        x.key(0);
        due("falling", NOT, x.clear());
        x.ticks(2);
        due("one still falls", NOT, x.clear());
        due("changes nothing", 2, x.line(-1));
        x.ticks(1);
        due("two moulds", 2, x.clear());
        due("in the box", 12, x.told(0, 2));
        due("in the box", 12, x.told(1, 2));
        due("in its channel", 2, x.told(2, 2));
        dueLine(x);
        due("bands are free", 12, x.count(6));
        due("slugs", 0, x.count(5));
    }

    private static void slug() {
        LineCaster x = withMoulds(0, 11);
        x.set(2, 24);
        x.key(11);
        x.band();
        x.key(0);
        x.ticks(13);
        x.cast();
        dueSlug(x, 0, " al");
        due("beyond", BAD, x.slug(0, 3));
        due("beyond all", BAD, x.slug(0, 24));
        due("MAX", BAD, x.slug(0, MAX));
        due("-2", BAD, x.slug(0, -2));
        due("MIN", BAD, x.slug(0, MIN));
        for (int bad : new int[] {-1, 1, 39, 40, MIN, MAX}) {
            due("slug " + bad, BAD, x.slug(bad, -1));
            due("slug " + bad, BAD, x.slug(bad, 0));
        }
        LineCaster y = new LineCaster();
        for (int m = 0; m < 24; m++) y.mould(m % 12, 0);
        for (int m = 0; m < 24; m++) y.place(m % 12, 1, 0);
        for (int m = 0; m < 24; m++) y.key(m % 12);
        y.ticks(2);
        y.set(2, 240);
        y.cast();
        dueSlug(y, 0, "abcdefghijklabcdefghijkl");
        due("beyond 24", BAD, y.slug(0, 24));
    }

    private static void count() {
        LineCaster x = withMoulds(0, 0, 0, 0, 0, 0, 0, 0, 0, 1, 1);
        dueCounts(x, 11, 10, 1, 0, 0, 0, 12, 0, 0);
        x.key(0);
        x.band();
        x.key(1);
        dueCounts(x, 11, 8, 1, 2, 0, 0, 11, 0, 0);
        x.ticks(2);
        dueCounts(x, 11, 8, 1, 2, 0, 0, 11, 0, 2);
        x.ticks(1);
        x.set(2, 26);
        x.home(8);
        x.cast();
        dueCounts(x, 11, 9, 0, 0, 2, 1, 12, 0, 3);
        x.ticks(20);
        dueCounts(x, 11, 9, 1, 0, 1, 1, 12, 1, 23);
        x.ticks(2);
        dueCounts(x, 11, 10, 1, 0, 0, 1, 12, 1, 25);
        for (int bad : new int[] {-1, 9, MIN, MAX}) due("count(" + bad + ")", BAD, x.count(bad));
    }

    // ---- 3 rows of keys, teeth

    private static LineCaster withRow(int lane, int... keys) {
        LineCaster x = new LineCaster();
        fill(x, 1, lane, keys);
        return x;
    }

    private static void dueRowFaults(String call, int n, LineCaster x, RowCall c) {
        due(call + " n 0", BAD, c.of(x, 1, 2, 0, 0));
        due(call + " n 25", BAD, c.of(x, 1, 2, 0, 25));
        due(call + " n MIN", BAD, c.of(x, 1, 2, 0, MIN));
        due(call + " n MAX", BAD, c.of(x, 1, 2, 0, MAX));
        due(call + " BAD ahead of NULL", BAD, c.of(x, 0, 2, 0, 25));
        due(call + " sheet -1", BAD, c.of(x, -1, 2, 0, n));
        due(call + " sheet 4", BAD, c.of(x, 4, 2, 0, n));
        due(call + " lane -1", BAD, c.of(x, 1, -1, 0, n));
        due(call + " lane 3", BAD, c.of(x, 1, 3, 0, n));
        due(call + " NULL ahead of INDEX", NULL, c.of(x, 0, 2, -1, n));
        due(call + " CAST ahead of INDEX", CAST, c.of(x, 1, 0, -1, n));
        due(call + " CAST", CAST, c.of(x, 1, 1, 0, n));
        due(call + " i -1", INDEX, c.of(x, 1, 2, -1, n));
        due(call + " i MIN", INDEX, c.of(x, 1, 2, MIN, n));
        due(call + " i MAX", INDEX, c.of(x, 1, 2, MAX, n));
        due(call + " i 1", INDEX, c.of(x, 1, 2, 1, n));
        x.item(1, 2, 1, 13);
        due(call + " 13", NOT, c.of(x, 1, 2, 0, n));
        due(call + " INDEX ahead of NOT", INDEX, c.of(x, 1, 2, 1, n));
        x.item(1, 2, 1, -1);
        due(call + " -1", NOT, c.of(x, 1, 2, 0, n));
    }

    private interface RowCall {
        int of(LineCaster x, int sheet, int lane, int i, int n);
    }

    private static void comes() {
        for (int lane = 0; lane < 3; lane++) {
            // let go 0 1 2 3 4, come at 11, 1, 7, 3, 4
            LineCaster x = withRow(lane, 9, 11, 12, 5, 0, 0);
            int[] want = {1, 3, 4, 2, 0};
            for (int k = 0; k < 5; k++) due("comes " + k, want[k], x.comes(1, lane, 1, 5, 1, k));
            due("by a gap of 11 in order", 0, x.comes(1, lane, 1, 5, 11, 0));
            due("by a gap of 10, 11 and 10: turned", 1, x.comes(1, lane, 1, 5, 10, 0));
            due("k -1", BAD, x.comes(1, lane, 1, 5, 1, -1));
            due("k 5", BAD, x.comes(1, lane, 1, 5, 1, 5));
            due("k MAX", BAD, x.comes(1, lane, 1, 5, 1, MAX));
            for (int bad : new int[] {0, -1, 31, MIN, MAX}) due("gap " + bad, BAD, x.comes(1, lane, 1, 5, bad, 0));
            due("gap 30", 4, x.comes(1, lane, 1, 5, 30, 4));
        }
        LineCaster ties = withRow(2, 3, 2, 1, 0);
        for (int k = 0; k < 4; k++) due("of one tick " + k, k, ties.comes(1, 2, 0, 4, 1, k));
        LineCaster reach = withRow(2, 0, 1);
        reach.place(0, 1, 20);
        due("by reach", 1, reach.comes(1, 2, 0, 2, 18, 0));
        due("by reach", 0, reach.comes(1, 2, 0, 2, 19, 0));
        LineCaster all = withRow(2, 11, 11, 10, 10, 9, 9, 8, 8, 7, 7, 6, 6, 5, 5, 4, 4, 3, 3, 2, 2, 1, 1, 0, 0);
        boolean[] seen = new boolean[24];
        for (int k = 0; k < 24; k++) seen[all.comes(1, 2, 0, 24, 1, k)] = true;
        for (int k = 0; k < 24; k++) due("each comes once " + k, 1, seen[k] ? 1 : 0);
        dueRowFaults("comes", 4, withRow(2, 0, 0, 0, 0), (x, s, l, i, n) -> x.comes(s, l, i, n, 1, 0));
    }

    private static void turned() {
        for (int lane = 0; lane < 3; lane++) {
            // let go 0 1 2 3 4, come at 11, 1, 7, 3, 4
            LineCaster x = withRow(lane, 9, 11, 12, 5, 0, 0);
            due("turned", 6, x.turned(1, lane, 1, 5, 1));
            due("one key", 0, x.turned(1, lane, 1, 1, 1));
            due("gap 10", 1, x.turned(1, lane, 1, 5, 10));
            due("gap 11", 0, x.turned(1, lane, 1, 5, 11));
            for (int bad : new int[] {0, -1, 31, MIN, MAX}) due("gap " + bad, BAD, x.turned(1, lane, 1, 5, bad));
        }
        LineCaster ties = withRow(2, 3, 2, 1, 0);
        due("of one tick", 0, ties.turned(1, 2, 0, 4, 1));
        dueRowFaults("turned", 4, withRow(2, 0, 0, 0, 0), (x, s, l, i, n) -> x.turned(s, l, i, n, 1));
    }

    private static void waits() {
        for (int lane = 0; lane < 3; lane++) {
            LineCaster x = withRow(lane, 9, 11, 12, 5, 0, 0);
            // 11 to 0: 11; 0 to 5: 1; 5 to 0: 5; 0 to 0: 1
            due("waits", 18, x.waits(1, lane, 1, 5));
            due("one key", 0, x.waits(1, lane, 1, 1));
            due("two keys", 1, x.waits(1, lane, 0, 2));
        }
        LineCaster reach = withRow(2, 3, 7, 6);
        due("one ahead by 1", 2, reach.waits(1, 2, 0, 3));
        reach.place(3, 1, 20);
        reach.place(7, 1, 0);
        due("by reach", 21, reach.waits(1, 2, 0, 3));
        dueRowFaults("waits", 4, withRow(2, 0, 0, 0, 0), LineCaster::waits);
    }

    private static void gap() {
        for (int lane = 0; lane < 3; lane++) {
            LineCaster x = withRow(lane, 9, 11, 12, 5, 0, 0);
            due("gap", 11, x.gap(1, lane, 1, 5));
            due("one key", 1, x.gap(1, lane, 1, 1));
            due("two keys", 1, x.gap(1, lane, 0, 2));
        }
        LineCaster far = withRow(2, 0, 1, 2);
        far.place(0, 1, 20);
        far.place(1, 1, 20);
        far.place(2, 1, 5);
        due("the pair next to one another", 15, far.gap(1, 2, 0, 3));
        far.place(2, 1, 0);
        due("the widest need", 20, far.gap(1, 2, 0, 3));
        dueRowFaults("gap", 4, withRow(2, 0, 0, 0, 0), LineCaster::gap);
    }

    private static void type() {
        LineCaster x = new LineCaster();
        due("two bytes", 2, x.type(('z' << 8) + 'a', 2));
        due("the highest is first", -20, x.plays(1));
        due("two bytes", 2, x.type(('a' << 8) + 'z', 2));
        due("the lowest is last", -21, x.plays(1));
        due("a blank", 1, x.type(32, 1));
        due("126", 2, x.type(126, 1));
        due("31", BAD, x.type(31, 1));
        due("127", BAD, x.type(127, 1));
        due("255", BAD, x.type(255, 1));
        due("0", BAD, x.type(0, 1));
        due("-1", BAD, x.type(-1L, 1));
        due("-1", BAD, x.type(-1L, 8));
        due("what is above is not taken", 3, x.type(0xFFFFFFFFFFFFFF61L, 1));
        due("what is above is not taken", 4, x.type(0x8000000000000061L, 1));
        due("a high byte of eight", BAD, x.type(0xE161616161616161L, 8));
        due("a high byte of two", BAD, x.type(0x1F61L, 2));
        due("the fifth byte is bad", BAD, x.type(0x617F61616161L, 6));
        for (int bad : new int[] {0, 9, -1, MIN, MAX}) due("n " + bad, BAD, x.type(97, bad));
        due("eight", 12, x.type(0x6162636465666768L, 8));
        for (int t = 20; t <= 52; t += 8) due("eight", t, x.type(0x6162636465666768L, 8));
        due("seven", 59, x.type(0x61626364656667L, 7));
        due("two too many by one", FULL, x.type(0x6161L, 2));
        due("the sixtieth", 60, x.type(97, 1));
        due("no more", FULL, x.type(97, 1));
        due("BAD ahead of FULL", BAD, x.type(31, 1));
        LineCaster y = withMoulds(0, 1, 2, 3, 4, 5, 6, 7);
        for (int p = 0; p < 12; p++) y.place(p, 1, 0);
        y.type(0x6867662065616362L, 8);
        due("plays", 8, y.plays(1));
        y.ticks(2);
        dueLine(y, 7, 6, 5, 100, 4, 0, 2, 1);
    }

    private static void plays() {
        LineCaster x = withMoulds(0, 11, 0);
        due("empty", -20, x.plays(1));
        write(x, "al a");
        for (int bad : new int[] {0, -1, 31, MIN, MAX}) due("gap " + bad, BAD, x.plays(bad));
        due("the tape stays", 4, x.plays(2));
        due("now", 6, x.count(8));
        due("the tape is empty", -20, x.plays(2));
        dueLine(x, 0, 100);
        x.ticks(2);
        dueLine(x, 0, 100, 2);
        x.ticks(7);
        dueLine(x, 0, 100, 2, 1);
        write(x, "abm");
        due("a fault", -22, x.plays(1));
        due("none is played", 4, x.line(-1));
        due("the tape is empty", -20, x.plays(1));
        for (String bad : new String[] {"`", "m", "A", "!", "~", "0"}) {
            write(x, bad);
            due("a fault by " + bad, -20, x.plays(30));
        }
        write(x, "all a b c all a b c all a b c all a b c all a b c all a b c");
        due("the last of sixty", 60, write(x, "z"));
        due("a fault at the end", -79, x.plays(30));
        due("now", 15, x.count(8));
        due("60 fit again", 1, write(x, "a"));
        LineCaster y = withMoulds(0, 1);
        due("a full tape", 60, write(y, "ab                                                          "));
        due("14 of 60", 14, y.plays(1));
    }

    private static void playsStops() {
        LineCaster x = withMoulds(0, 1);
        write(x, "acb");
        due("c is dry", 1, x.plays(5));
        due("it was tried 5 ticks on", 5, x.count(8));
        due("b is not played", 1, x.channel(1, -1));
        due("the rest is gone", -20, x.plays(5));
        write(x, "c");
        due("the first can't be let go", 0, x.plays(5));
        due("no tick goes on", 5, x.count(8));
        write(x, "             b");
        due("twelve of thirteen bands", 12, x.plays(1));
        x.ticks(2);
        write(x, "b ");
        due("no band is free", 1, x.plays(1));
        LineCaster y = withMoulds(0);
        y.set(2, 10);
        y.set(3, 1);
        y.key(0);
        y.ticks(2);
        y.cast();
        write(y, " a");
        due("a is back when it is played", 2, y.plays(1));
        LineCaster z = new LineCaster();
        for (int m = 0; m < 24; m++) z.mould(m / 8, 0);
        write(z, "aaaaaaaabbbbbbbbcccccccc ");
        due("24 things", 24, z.plays(1));
        due("now", 24, z.count(8));
    }

    private static void playsFull() {
        LineCaster x = withMoulds(0);
        for (int n = 1; n <= 333; n++) x.ticks(300);
        write(x, "a      ");
        due("99900 and 6 times 17", FULL, x.plays(17));
        due("the tape is empty", -20, x.plays(17));
        due("none is played", 1, x.channel(0, -1));
        write(x, "a bbbbb");
        due("though it would stop", FULL, x.plays(17));
        write(x, "a     z");
        due("a fault ahead of FULL", -26, x.plays(17));
        write(x, "a     ");
        x.ticks(14);
        due("99914 and 5 times 17", 6, x.plays(17));
        due("the last tick", 99999, x.count(8));
    }

    private static void risk() {
        LineCaster x = new LineCaster();
        int[] want = {0, 1, 2, 1, 2, 2, 3, 1, 2, 2, 3, 2};
        for (int k = 0; k < 12; k++) due("risk(" + k + ")", want[k], x.risk(k));
        x.letter(0, 1, 3);
        due("astray whole, by one of two", 1, x.risk(0));
        x.letter(5, 1, 127);
        due("into the box is no risk", 0, x.risk(5));
        x.place(5, 0, 0);
        due("at home is no risk", 0, x.risk(5));
        x.place(11, 0, 0);
        x.place(5, 0, 127);
        due("by all seven", 7, x.risk(5));
        for (int bad : new int[] {-1, 12, MIN, MAX}) due("risk(" + bad + ")", BAD, x.risk(bad));
    }

    private static void better() {
        LineCaster x = new LineCaster();
        due("better(0)", 16, x.better(0));
        due("better(2)", 48, x.better(2));
        due("better(11)", 28, x.better(11));
        due("teeth stay", 12, x.letter(11, 1, 12));
        due("rails stay", 127 - 12, x.place(11, 0, 127 - 12));
        due("right still", NONE, x.astray());
        x.letter(7, 1, 127);
        due("astray", 7, x.astray());
        int better = x.better(7);
        due("a way out", 1, better >= 1 ? 1 : 0);
        x.letter(7, 1, better);
        x.place(7, 0, 127 - better);
        due("right by it", NONE, x.astray());
        due("already best", better, x.better(7));
        x.letter(3, 1, 1);
        due("d falls at a whatever h has", NONE, x.better(7));
        for (int bad : new int[] {-1, 12, MIN, MAX}) due("better(" + bad + ")", BAD, x.better(bad));
        LineCaster first = new LineCaster();
        for (int p = 1; p < 12; p++) first.place(p, 0, 127);
        due("others are held at home", NONE, first.better(0));
        due("the least teeth", 1, withBar(96, 6, 28, 76, 92, 39, 83, 23, 107, 122, 124, 123).better(0));
        due("all teeth", 127, withBar(98, 42, 41, 73, 28, 60, 47, 122, 117, 115, 93, 126).better(11));
    }

    private static LineCaster withBar(int... teeth) {
        LineCaster x = new LineCaster();
        for (int k = 0; k < 12; k++) {
            x.letter(k, 1, teeth[k]);
            x.place(k, 0, 127 - teeth[k]);
        }
        return x;
    }

    // ---- 4 sheets

    private static void sheet() {
        LineCaster x = new LineCaster();
        due("0 items", 0, x.sheet(0, 0, 0));
        due("of 0 items the first", INDEX, x.item(0, 0, 0, 1));
        due("40 items", 40, x.sheet(3, 2, 40));
        due("the last", 1, x.item(3, 2, 39, 1));
        due("41 items", BAD, x.sheet(3, 2, 41));
        due("MAX items", BAD, x.sheet(3, 2, MAX));
        due("-1 items", SIZE, x.sheet(3, 2, -1));
        due("MIN items", SIZE, x.sheet(3, 2, MIN));
        due("it stays", 1, x.item(3, 2, 39, 1));
        for (int bad : new int[] {-1, 4, MIN, MAX}) due("sheet " + bad, BAD, x.sheet(bad, 0, -1));
        for (int bad : new int[] {-1, 3, MIN, MAX}) due("lane " + bad, BAD, x.sheet(0, bad, -1));
        fill(x, 1, 1, 127, 127, 127, 127, 127, 127, 127, 127, 127, 127, 127, 127);
        due("a new row", 12, x.sheet(1, 1, 12));
        due("rails", 12, x.rails(1, 1, 0));
        for (int p = 0; p < 12; p++) due("0 at first", 0, x.place(p, 0, 1));
        due("of another lane", 5, x.sheet(1, 0, 5));
        due("not the old lane", CAST, x.item(1, 1, 0, 0));
        due("the new length", INDEX, x.item(1, 0, 5, 0));
    }

    private static void drop() {
        LineCaster x = new LineCaster();
        due("nothing", NULL, x.drop(0));
        x.sheet(0, 1, 17);
        x.sheet(1, 1, 0);
        due("17", 17, x.drop(0));
        due("nothing again", NULL, x.drop(0));
        due("an item of nothing", NULL, x.item(0, 1, 0, 0));
        due("0", 0, x.drop(1));
        due("nothing again", NULL, x.drop(1));
        for (int bad : new int[] {-1, 4, MIN, MAX}) due("sheet " + bad, BAD, x.drop(bad));
        due("a row again", 12, x.sheet(0, 2, 12));
        due("12", 12, x.drop(0));
    }

    private static void item() {
        LineCaster x = new LineCaster();
        for (int lane = 0; lane < 3; lane++) {
            x.sheet(lane, lane, 12);
            due("item", 1, x.item(lane, lane, 11, 5));
            due("beyond", INDEX, x.item(lane, lane, 12, 5));
            due("-1", INDEX, x.item(lane, lane, -1, 5));
            due("MIN", INDEX, x.item(lane, lane, MIN, 5));
            due("MAX", INDEX, x.item(lane, lane, MAX, 5));
            due("another lane", CAST, x.item(lane, (lane + 1) % 3, 99, 5));
            due("another lane", CAST, x.item(lane, (lane + 2) % 3, 0, 5));
            due("lane 3", BAD, x.item(lane, 3, 0, 5));
            due("lane -1", BAD, x.item(lane, -1, 0, 5));
            due("lane 3 of nothing", BAD, x.item(3, 3, 0, 5));
            due("nothing", NULL, x.item(3, lane, 99, 5));
            due("rails", 12, x.rails(lane, lane, 0));
            due("what it became", 5, x.place(11, 0, 0));
        }
        for (int bad : new int[] {-1, 4, MIN, MAX}) due("sheet " + bad, BAD, x.item(bad, 0, 0, 5));
        dueLowestBits(x, 0, 256 + 77, 77);
        dueLowestBits(x, 0, 128, NOT);
        dueLowestBits(x, 0, 65536, 0);
        dueLowestBits(x, 1, 256 + 77, NOT);
        dueLowestBits(x, 1, 65536 + 77, 77);
        dueLowestBits(x, 1, 32768, NOT);
        dueLowestBits(x, 2, 65536 + 77, NOT);
        dueLowestBits(x, 2, MIN, NOT);
        dueLowestBits(x, 1, MIN, 0);
    }

    /** Sheet `lane` holds 12 items; its last one is read by rails. */
    private static void dueLowestBits(LineCaster x, int lane, int v, int want) {
        due("item " + v, 1, x.item(lane, lane, 11, v));
        int answer = x.rails(lane, lane, 0);
        due("lane " + lane + " makes of " + v, want, answer == 12 ? x.place(11, 0, 0) : answer);
    }

    private static void copy() {
        LineCaster x = new LineCaster();
        due("nothing from", NULL, x.copy(0, 0, 1, 0, 1));
        fill(x, 0, 1, 1, 2, 3, 4, 5, 6, 7, 8, 9, 10, 11, 12, 13);
        due("nothing to", NULL, x.copy(0, 0, 1, 0, 1));
        due("nothing from, ahead of INDEX", NULL, x.copy(1, -1, 0, 0, -1));
        x.sheet(1, 0, 13);
        due("unlike lanes", CAST, x.copy(0, 0, 1, 0, 1));
        due("unlike lanes ahead of INDEX", CAST, x.copy(0, -1, 1, 0, -1));
        x.sheet(1, 1, 12);
        due("all but one", 12, x.copy(0, 1, 1, 0, 12));
        dueItems(x, 1, 1, 2, 3, 4, 5, 6, 7, 8, 9, 10, 11, 12, 13);
        due("within, up", 5, x.copy(1, 0, 1, 2, 5));
        dueItems(x, 1, 1, 2, 3, 2, 3, 4, 5, 6, 9, 10, 11, 12, 13);
        due("within, down", 5, x.copy(1, 3, 1, 1, 5));
        dueItems(x, 1, 1, 2, 3, 4, 5, 6, 9, 6, 9, 10, 11, 12, 13);
        due("from stays", 12, x.copy(0, 0, 1, 0, 12));
        dueItems(x, 1, 1, 1, 2, 3, 4, 5, 6, 7, 8, 9, 10, 11, 12);
        due("none", 0, x.copy(0, 13, 1, 12, 0));
        due("none from beyond", INDEX, x.copy(0, 14, 1, 12, 0));
        due("none to beyond", INDEX, x.copy(0, 13, 1, 13, 0));
        due("n -1", INDEX, x.copy(0, 0, 1, 0, -1));
        due("n MIN", INDEX, x.copy(0, 0, 1, 0, MIN));
        due("n MAX", INDEX, x.copy(0, 0, 1, 0, MAX));
        due("i -1", INDEX, x.copy(0, -1, 1, 0, 1));
        due("j -1", INDEX, x.copy(0, 0, 1, -1, 1));
        due("i MAX", INDEX, x.copy(0, MAX, 1, 0, 1));
        due("j MAX", INDEX, x.copy(0, 0, 1, MAX, 1));
        due("i MIN", INDEX, x.copy(0, MIN, 1, 0, MIN));
        due("from too short", INDEX, x.copy(0, 2, 1, 0, 12));
        due("to too short", INDEX, x.copy(0, 0, 1, 1, 12));
        for (int bad : new int[] {-1, 4, MIN, MAX}) {
            due("from " + bad, BAD, x.copy(bad, 0, 3, 0, 1));
            due("to " + bad, BAD, x.copy(3, 0, bad, 0, 1));
        }
        dueItems(x, 1, 1, 1, 2, 3, 4, 5, 6, 7, 8, 9, 10, 11, 12);
    }
}
