import java.nio.charset.StandardCharsets;

/** Each promise of the document by itself: ordinary inputs, the edges it names, wrong inputs. */
public final class PromiseTest {
    private static final int BEYOND = -1000000001;
    private static final int FULL = -1000000002;
    private static final int KIND = -1000000003;
    private static final int NONE = -1000000004;
    private static final int STATE = -1000000005;
    private static final int MISSING = -1000000006;
    private static final int SIZE = -1000000007;
    private static final int ALL = 16777215;
    private static final int LEAST = Integer.MIN_VALUE;
    private static final int MOST = Integer.MAX_VALUE;

    private static int wrong = 0;
    private static int promise = 0;
    private static int asked = 0;

    private static void due(String call, long got, long want) {
        asked++;
        if (got != want) {
            wrong++;
            System.out.println("promise " + promise + ": " + call + " answered " + got + ", due is " + want);
        }
    }

    /** A new object with walkers, told as kind, cell, kind, cell, .. */
    private static FogKept moorWith(int... kindsAndCells) {
        FogKept x = new FogKept();
        for (int i = 0; i < kindsAndCells.length; i += 2) {
            due("walker", x.walker(kindsAndCells[i], kindsAndCells[i + 1]), i / 2);
        }
        return x;
    }

    private static void feedText(FogKept x, String text) {
        for (byte b : text.getBytes(StandardCharsets.ISO_8859_1)) {
            x.feed(b, 1);
        }
    }

    private static int moorOf(FogKept x, String text) {
        feedText(x, text);
        return x.moor();
    }

    private static void newObject() {
        promise = 1;
        FogKept x = new FogKept();
        int[] nows = {0, 0, 0, 0, 0, 35};
        for (int what = 0; what < 6; what++) {
            due("now(" + what + ")", x.now(what), nows[what]);
        }
        for (int what = 0; what < 4; what++) {
            due("count(" + what + ")", x.count(what), 0);
        }
        for (int which = -1; which < 7; which++) {
            due("status(" + which + ")", x.status(which), 0);
        }
        due("of", x.of(0, 0), BEYOND);
        due("undo", x.undo(), NONE);
        due("wipe", x.wipe(), 0);
        for (int s = 0; s < 4; s++) {
            due("lays", x.lays(s), MISSING);
        }
    }

    private static void fog() {
        promise = 2;
        FogKept x = new FogKept();
        due("fog(5)", x.fog(5), 0);
        due("fog(all)", x.fog(ALL), 5);
        due("fog(-1)", x.fog(-1), BEYOND);
        due("fog(all + 1)", x.fog(ALL + 1), BEYOND);
        due("fog(least)", x.fog(LEAST), BEYOND);
        due("fog(most)", x.fog(MOST), BEYOND);
        due("fog stays", x.now(1), ALL);
        due("fog(0)", x.fog(0), ALL);
    }

    private static void village() {
        promise = 3;
        FogKept x = new FogKept();
        due("village(0)", x.village(0), 35);
        due("village(35)", x.village(35), 0);
        due("village(7)", x.village(7), 35);
        due("village(-1)", x.village(-1), BEYOND);
        due("village(36)", x.village(36), BEYOND);
        due("village stays", x.now(5), 7);
    }

    private static void at() {
        promise = 4;
        FogKept x = moorWith(0, 5, 1, 6, 2, 5, 3, 0, 4, 35);
        due("at(5)", x.at(5), 5);
        due("at(6)", x.at(6), 2);
        due("at(0)", x.at(0), 8);
        due("at(35)", x.at(35), 16);
        due("at(7)", x.at(7), 0);
        due("at(-1)", x.at(-1), BEYOND);
        due("at(36)", x.at(36), BEYOND);
    }

    private static void walker() {
        promise = 5;
        FogKept x = new FogKept();
        due("kind -1", x.walker(-1, 0), BEYOND);
        due("kind 6", x.walker(6, 0), BEYOND);
        due("cell -1", x.walker(0, -1), BEYOND);
        due("cell 36", x.walker(0, 36), BEYOND);
        due("none came", x.count(0), 0);
        for (int w = 0; w < 8; w++) {
            due("walker", x.walker(w % 6, w * 5), w);
        }
        int[] due3 = {3, 15, 15, 0, 0, -1, -1};
        for (int what = 0; what < due3.length; what++) {
            due("of(3, " + what + ")", x.of(3, what), due3[what]);
        }
        due("a 9th", x.walker(0, 0), FULL);
        due("a 9th, wrong kind", x.walker(6, 0), BEYOND);
        due("a 9th, wrong cell", x.walker(0, 36), BEYOND);
        due("eight", x.count(0), 8);
    }

    private static void of() {
        promise = 6;
        String[] steps = {"111111111111", "111111111111", "101010101010", "000000000000", "222222222222", "201110201110"};
        String[] turns = {"000000000000", "100100100100", "000000000000", "111111111111", "100100100100", "020002000200"};
        FogKept x = moorWith(0, 0, 1, 1, 2, 2, 3, 3, 4, 4, 5, 5);
        for (int h = 0; h < 36; h++) {
            for (int k = 0; k < 6; k++) {
                due("kind", x.of(k, 0), k);
                due("steps of " + k + " in " + h, x.of(k, 7), steps[k].charAt(h % 12) - '0');
                due("turns of " + k + " in " + h, x.of(k, 8), turns[k].charAt(h % 12) - '0');
            }
            x.hours(1);
        }
        due("start", x.of(4, 2), 4);
        due("what -1", x.of(0, -1), BEYOND);
        due("what 9", x.of(0, 9), BEYOND);
        due("walker -1", x.of(-1, 0), BEYOND);
        due("walker 6", x.of(6, 0), BEYOND);
    }

    private static void set() {
        promise = 7;
        FogKept x = moorWith(3, 5, 3, 5, 3, 5);
        due("cell", x.set(0, 1, 9), 5);
        due("cell is", x.of(0, 1), 9);
        due("start stays", x.of(0, 2), 5);
        due("start", x.set(0, 2, 35), 5);
        due("start is", x.of(0, 2), 35);
        due("cell stays", x.of(0, 1), 9);
        due("heading", x.set(0, 3, 3), 0);
        due("heading is", x.of(0, 3), 3);
        due("hope", x.set(0, 4, 15), 0);
        due("hope is", x.of(0, 4), 15);
        due("keep", x.keep(1, 2), 2);
        due("cell of two", x.set(2, 1, 0), 5);
        due("the other one", x.of(1, 1), 0);
        due("cell of the other", x.set(1, 1, 35), 0);
        due("goes along", x.of(2, 1), 35);
        due("starts stay", x.of(2, 2), 5);
        int[] most = {35, 35, 3, 15};
        for (int what = 1; what <= 4; what++) {
            due("v is most", x.set(1, what, most[what - 1]) >= 0 ? 1 : 0, 1);
            due("v above", x.set(1, what, most[what - 1] + 1), BEYOND);
            due("v below", x.set(1, what, -1), BEYOND);
            due("v stays", x.of(1, what), most[what - 1]);
        }
        due("what 0", x.set(0, 0, 1), BEYOND);
        due("what 5", x.set(0, 5, 1), BEYOND);
        due("walker 3", x.set(3, 1, 1), BEYOND);
        due("walker -1", x.set(-1, 1, 1), BEYOND);
    }

    private static void turnAndAs() {
        promise = 8;
        FogKept x = moorWith(0, 0);
        x.set(0, 4, 11);
        due("turn(0, 5)", x.turn(0, 5), 0);
        due("turn(0, 5) again", x.turn(0, 5), 5);
        due("kind is", x.of(0, 0), 5);
        due("turn(0, 6)", x.turn(0, 6), BEYOND);
        due("turn(0, -1)", x.turn(0, -1), BEYOND);
        due("turn(1, 0)", x.turn(1, 0), BEYOND);
        due("turn(-1, 0)", x.turn(-1, 0), BEYOND);
        due("kind stays", x.of(0, 0), 5);
        promise = 9;
        String[] under = {"100000", "110000", "101000", "100100", "110010", "101001"};
        for (int k = 0; k < 6; k++) {
            x.turn(0, k);
            for (int as = 0; as < 6; as++) {
                due(k + " as " + as, x.as(0, as), under[k].charAt(as) == '1' ? 11 : KIND);
            }
        }
        due("as(0, 6)", x.as(0, 6), BEYOND);
        due("as(0, -1)", x.as(0, -1), BEYOND);
        due("as(1, 0)", x.as(1, 0), BEYOND);
        due("as(-1, 0)", x.as(-1, 0), BEYOND);
    }

    private static void freeAndKeep() {
        promise = 11;
        FogKept x = moorWith(3, 4, 3, 4, 3, 4, 3, 5, 5, 4);
        x.set(0, 4, 6);
        x.set(2, 4, 9);
        due("not AT one CELL", x.keep(0, 3), STATE);
        due("one and the same", x.keep(0, 0), BEYOND);
        due("no such other", x.keep(0, 5), BEYOND);
        due("no such one", x.keep(-1, 0), BEYOND);
        due("keep(2, 0)", x.keep(2, 0), 2);
        due("with", x.of(0, 5), 2);
        due("with, too", x.of(2, 5), 0);
        due("as", x.of(0, 6), 9);
        due("as, too", x.of(2, 6), 6);
        due("one isn't FREE", x.keep(1, 2), STATE);
        due("the other isn't", x.keep(0, 1), STATE);
        due("keep(1, 4)", x.keep(1, 4), 4);
        promise = 10;
        due("free(2)", x.free(2), 0);
        due("both", x.now(3), 18);
        due("no name", x.of(0, 6), -1);
        due("no name, too", x.of(2, 6), -1);
        due("FREE", x.free(0), STATE);
        due("FREE, too", x.free(2), STATE);
        due("no such", x.free(5), BEYOND);
        due("no such, too", x.free(-1), BEYOND);
        due("free(1)", x.free(1), 4);
        due("none", x.now(3), 0);
        FogKept self = moorWith(3, 3, 5, 7);
        self.fog(ALL);
        self.set(1, 2, 0);
        self.set(1, 4, 8);
        self.set(1, 1, 12);
        due("the bailiff goes up twice", self.hours(1), 2);
        due("WITH itself", self.of(1, 5), 1);
        due("AS its own HOPE", self.of(1, 6), 8);
        due("not GLAD", self.now(4), 0);
        due("cell of itself", self.set(1, 1, 20), 0);
        due("free of itself", self.free(1), 1);
        due("none is KEPT", self.now(3), 0);
    }

    private static void paths() {
        promise = 12;
        FogKept x = moorWith(0, 0, 1, 14, 2, 5, 3, 9, 4, 0, 5, 21);
        x.set(4, 3, 3);
        // Walker: turned by the edge, then along the row and down the last column.
        int[][] cells = {
            {0, 1, 2, 3, 4, 5, 5, 11, 17},
            {15, 16, 17, 23, 29, 35, 34, 33, 32},
            {5, 5, 5, 5, 11, 11, 17, 17, 23},
            {9, 9, 9, 9, 9, 9, 9, 9, 9},
            {1, 3, 5, 17, 29, 35, 23, 11, 5},
            {9, 9, 15, 21, 27, 27, 15, 15, 9},
        };
        for (int h = 0; h < 9; h++) {
            due("hours(1)", x.hours(1), 0);
            for (int w = 0; w < 6; w++) {
                due("cell of " + w + " behind hour " + h, x.of(w, 1), cells[w][h]);
            }
        }
        due("HOUR", x.now(0), 9);
        due("heading of LOST", x.of(3, 3), 1);
        due("hours(0)", x.hours(0), BEYOND);
        due("hours(-1)", x.hours(-1), BEYOND);
        due("hours(61)", x.hours(61), BEYOND);
        due("hours(most)", x.hours(MOST), BEYOND);
        due("hours(60)", x.hours(60), 0);
        due("HOUR then", x.now(0), 69);
    }

    /** Who is kept with whom by numbers, who lifts, who goes along, and bailiffs by themselves. */
    private static void collisions() {
        promise = 12;
        FogKept x = moorWith(3, 8, 3, 9, 3, 8, 3, 9, 3, 8, 3, 8, 3, 8);
        for (int w = 0; w < 7; w++) {
            x.set(w, 4, w + 1);
        }
        x.fog(2);
        due("no FOG yet", x.hours(1), 0);
        due("in FOG", x.hours(1), 63);
        int[] with = {2, 3, 0, 1, 5, 4, -1};
        for (int w = 0; w < 7; w++) {
            due("with " + w, x.of(w, 5), with[w]);
            due("as " + w, x.of(w, 6), with[w] < 0 ? -1 : with[w] + 1);
        }
        x.village(9);
        due("it lifts, but for the VILLAGE", x.hours(1), 10);
        due("still", x.hours(20), 10);
        due("its name stays", x.of(1, 6), 4);
        x.village(8);
        due("they are FREE", x.hours(1), 0);
        due("WITH none", x.of(1, 5), -1);
        due("AS nothing", x.of(1, 6), -1);

        FogKept pair = moorWith(4, 14, 0, 14, 1, 30);
        pair.set(1, 3, 3);
        due("keep", pair.keep(0, 1), 2);
        pair.fog(1);
        due("they go as the lower one does", pair.hours(1), 3);
        due("cell", pair.of(0, 1), 16);
        due("cell of the other", pair.of(1, 1), 16);
        due("its heading stays", pair.of(1, 3), 3);
        due("FREE, then each by itself", pair.hours(1), 0);
        due("the canon", pair.of(0, 1), 17);
        due("the walker", pair.of(1, 1), 15);

        FogKept bailiffs = moorWith(5, 6, 5, 6, 5, 6, 0, 7);
        for (int w = 0; w < 3; w++) {
            bailiffs.set(w, 3, 2);
            bailiffs.set(w, 2, 18);
        }
        bailiffs.set(3, 2, 1);
        bailiffs.fog(ALL);
        due("two, and one by itself, and no walker", bailiffs.hours(1), 7);
        due("first", bailiffs.of(0, 5), 1);
        due("second", bailiffs.of(1, 5), 0);
        due("third", bailiffs.of(2, 5), 2);
        due("a WALKER at its START isn't", bailiffs.of(3, 5), -1);
        due("it GOES on by itself", bailiffs.of(2, 1), 18);
        due("KEPT", bailiffs.hours(2), 7);
        due("turned twice, one up", bailiffs.of(2, 1), 12);
        due("heading", bailiffs.of(2, 3), 0);
    }

    /** More calls than an object is promised for, since no fewer bring HOUR to its end. */
    private static void lastHour() {
        promise = 12;
        FogKept x = moorWith(3, 0);
        for (int i = 0; i < 1666; i++) {
            x.hours(60);
        }
        due("HOUR", x.now(0), 99960);
        due("above 99999", x.hours(40), STATE);
        due("BEYOND first", x.hours(61), BEYOND);
        due("HOUR stays", x.now(0), 99960);
        due("to 99999", x.hours(39), 0);
        due("one more", x.hours(1), STATE);
        due("HOUR at last", x.now(0), 99999);
        due("STATE twice", x.status(4), 2);
    }

    private static void now() {
        promise = 13;
        FogKept x = moorWith(3, 0, 3, 0, 3, 1, 3, 1);
        x.set(0, 4, 3);
        x.set(1, 4, 3);
        x.set(2, 4, 5);
        x.keep(0, 1);
        x.keep(2, 3);
        due("KEPT", x.now(3), 15);
        due("GLAD", x.now(4), 3);
        x.set(3, 4, 5);
        due("GLAD by a changed HOPE", x.now(4), 11);
        x.set(0, 4, 4);
        due("no more", x.now(4), 10);
        x.fog(1 << 23 | 2);
        due("FOG", x.now(1), 1 << 23 | 2);
        for (int h = 0; h < 50; h++) {
            due("HOUR", x.now(0), h);
            due("FOG in " + h, x.now(2), h % 24 == 1 || h % 24 == 23 ? 1 : 0);
            x.hours(1);
        }
        due("VILLAGE", x.now(5), 35);
        due("now(-1)", x.now(-1), BEYOND);
        due("now(6)", x.now(6), BEYOND);
    }

    private static void on() {
        promise = 14;
        FogKept x = moorWith(3, 8, 3, 8, 0, 0);
        x.set(1, 4, 12);
        x.fog(4);
        due("cell now", x.on(2, 0, 0), 0);
        due("cell ON 3", x.on(2, 3, 0), 2);
        due("cell ON 60", x.on(2, 60, 0), 35);
        due("FREE", x.on(0, 2, 1), -1);
        due("as none", x.on(0, 2, 2), -1);
        due("with", x.on(0, 3, 1), 1);
        due("as", x.on(0, 3, 2), 12);
        due("FREE again", x.on(0, 4, 1), -1);
        due("HOUR stays", x.now(0), 0);
        due("cell stays", x.of(2, 1), 0);
        due("heading stays", x.of(2, 3), 0);
        due("n -1", x.on(0, -1, 0), BEYOND);
        due("n 61", x.on(0, 61, 0), BEYOND);
        due("what -1", x.on(0, 0, -1), BEYOND);
        due("what 3", x.on(0, 0, 3), BEYOND);
        due("walker 3", x.on(3, 0, 0), BEYOND);
        due("walker -1", x.on(-1, 0, 0), BEYOND);
    }

    private static void looks() {
        FogKept x = moorWith(3, 8, 3, 8, 3, 8, 3, 35);
        x.set(0, 4, 2);
        x.fog(1 << 3);
        x.hours(5);
        promise = 15;
        due("meet(0, 1)", x.meet(0, 1), 23);
        due("meet(1, 0)", x.meet(1, 0), 23);
        due("meet(0, 2)", x.meet(0, 2), NONE);
        due("one and the same", x.meet(1, 1), BEYOND);
        due("no such", x.meet(0, 4), BEYOND);
        due("no such, too", x.meet(-1, 0), BEYOND);
        promise = 16;
        due("when(0)", x.when(0), 23);
        due("when(2)", x.when(2), NONE);
        due("when(4)", x.when(4), BEYOND);
        due("when(-1)", x.when(-1), BEYOND);
        promise = 18;
        due("glad(0)", x.glad(0), NONE);
        x.set(1, 4, 2);
        due("glad(0) then", x.glad(0), 23);
        due("glad(4)", x.glad(4), BEYOND);
        due("glad(-1)", x.glad(-1), BEYOND);
        promise = 17;
        due("till(0)", x.till(0), 0);
        x.hours(23);
        due("till(0) when KEPT", x.till(0), 1);
        due("when(0) when KEPT", x.when(0), 0);
        due("meet(0, 1) when KEPT", x.meet(0, 1), 0);
        due("glad(0) when KEPT", x.glad(0), 0);
        x.village(8);
        due("till(0) in the VILLAGE", x.till(0), NONE);
        due("till(4)", x.till(4), BEYOND);
        due("till(-1)", x.till(-1), BEYOND);
        promise = 16;
        FogKept alone = moorWith(5, 0);
        alone.set(0, 2, 1);
        alone.set(0, 1, 0);
        alone.fog(1);
        due("a bailiff by itself, GLAD never", alone.glad(0), NONE);
        due("a bailiff by itself", alone.when(0), 1);
    }

    private static void looksEnd() {
        FogKept x = moorWith(3, 8, 3, 7);
        x.fog(1 << 4);
        x.hours(1);
        x.set(0, 1, 7);
        promise = 15;
        due("within a day", x.meet(0, 1), 4);
        FogKept far = moorWith(0, 0, 3, 0);
        far.set(1, 1, 28);
        far.set(0, 1, 28);
        far.fog(1);
        far.village(28);
        due("never AT one CELL in FOG", far.meet(0, 1), NONE);
        // The walker goes up the column and round the moor's edge: 20 cells and 4 turns, a day's round.
        FogKept round = moorWith(0, 24, 3, 0);
        round.fog(1 << 3);
        due("up in hour 3", round.meet(0, 1), 4);
        round.fog(1 << 4);
        due("turned in hour 4", round.meet(0, 1), 5);
        round.fog(1 << 5);
        due("gone in hour 5", round.meet(0, 1), NONE);
        promise = 17;
        FogKept held = moorWith(3, 8, 3, 8);
        held.keep(0, 1);
        held.fog(ALL);
        due("ALL day", held.till(0), NONE);
        held.fog(ALL & ~(1 << 5));
        due("till hour 5", held.till(1), 6);
    }

    private static void heading() {
        promise = 19;
        // A walker at 14 and one that is lost at 8, 15, 20, 13: one step each way.
        int[] beside = {8, 15, 20, 13};
        for (int d = 0; d < 4; d++) {
            FogKept x = moorWith(0, 14, 3, beside[d]);
            x.set(0, 3, (d + 1) % 4);
            x.fog(1);
            due("heading " + d, x.heading(0, 1), d);
            due("its heading stays", x.of(0, 3), (d + 1) % 4);
            x.fog(0);
            due("no FOG", x.heading(0, 1), NONE);
            x.set(0, 1, beside[d]);
            x.keep(0, 1);
            due("KEPT now", x.heading(0, 1), 0);
        }
        FogKept lost = moorWith(3, 9, 3, 9);
        lost.set(0, 3, 2);
        lost.fog(ALL);
        due("all are as soon", lost.heading(0, 1), 0);
        due("one and the same", lost.heading(1, 1), BEYOND);
        due("no such", lost.heading(0, 2), BEYOND);
        due("no such, too", lost.heading(-1, 0), BEYOND);
    }

    private static void begin() {
        promise = 20;
        FogKept x = moorWith(3, 4, 3, 17, 3, 4);
        x.keep(0, 2);
        x.fog(1 << 6);
        due("begin(0, 1)", x.begin(0, 1), 17);
        due("begin(0, 2): FREE then", x.begin(0, 2), 4);
        due("they stay KEPT", x.now(3), 5);
        due("it stays", x.of(0, 1), 4);
        due("a walker's", walkerBegins(1), 23);
        due("a walker's, up, turned, and one to the right", walkerBegins(1 << 5), 24);
        x.hours(7);
        due("in 24 hours", x.begin(0, 1), 17);
        x.fog(0);
        due("no FOG", x.begin(0, 1), NONE);
        due("one and the same", x.begin(0, 0), BEYOND);
        due("no such", x.begin(3, 0), BEYOND);
        due("no such, too", x.begin(0, -1), BEYOND);
        FogKept start = moorWith(5, 35, 3, 7, 3, 9);
        start.fog(1);
        due("a bailiff whose START stays", start.begin(0, 1), 19);
    }

    /** Where a walker that goes up must begin to be kept with one that is lost at 17 (or at 1, hour 5). */
    private static int walkerBegins(int fog) {
        FogKept x = moorWith(0, 30, 3, fog == 1 ? 17 : 1);
        x.fog(fog);
        return x.begin(0, 1);
    }

    private static void kind() {
        promise = 21;
        FogKept x = moorWith(0, 14, 3, 2);
        x.fog(ALL);
        due("two steps at once, but turned: a bailiff", x.kind(0), 5);
        x.set(0, 3, 3);
        due("turned up by then: a canon", x.kind(0), 4);
        due("kind stays", x.of(0, 0), 0);
        x.set(0, 1, 2);
        due("turned to the edge, so it stays: a shepherd", x.kind(0), 1);
        x.set(0, 3, 1);
        due("one that stays", x.kind(0), 3);
        x.fog(0);
        due("no FOG", x.kind(0), NONE);
        x.keep(0, 1);
        due("KEPT", x.kind(1), 0);
        due("no such", x.kind(2), BEYOND);
        due("no such, too", x.kind(-1), BEYOND);
    }

    private static void hour() {
        promise = 22;
        FogKept x = moorWith(0, 26, 3, 2);
        due("hour(0, 1)", x.hour(0, 1), 3);
        due("FOG stays", x.now(1), 0);
        x.fog(ALL);
        x.hours(1);
        due("a step nearer", x.hour(0, 1), 3);
        x.set(1, 1, 20);
        due("together now, never again", x.hour(0, 1), NONE);
        x.set(1, 1, 14);
        due("in this hour", x.hour(0, 1), 1);
        x.set(0, 1, 14);
        x.keep(0, 1);
        due("KEPT now", x.hour(0, 1), 0);
        FogKept never = moorWith(3, 0, 3, 1);
        due("never", never.hour(0, 1), NONE);
        due("one and the same", never.hour(0, 0), BEYOND);
        due("no such", never.hour(0, 2), BEYOND);
        due("no such, too", never.hour(-1, 1), BEYOND);
    }

    private static void hope() {
        promise = 23;
        FogKept x = moorWith(3, 0, 3, 0);
        x.set(0, 4, 1);
        x.set(1, 4, 7);
        due("ON 0 none is", x.hope(0, 0), 0);
        x.fog(1);
        due("ON 1 both are", x.hope(0, 1), 7);
        due("the other's", x.hope(1, 1), 1);
        due("hope stays", x.of(0, 4), 1);
        due("ON 2 none is", x.hope(0, 2), 0);
        x.keep(0, 1);
        due("KEPT AS 7", x.hope(0, 0), 7);
        due("no such", x.hope(2, 0), BEYOND);
        due("no such, too", x.hope(-1, 0), BEYOND);
        due("n -1", x.hope(0, -1), BEYOND);
        due("n 61", x.hope(0, 61), BEYOND);
        due("n 60", x.hope(0, 60), 0);
    }

    private static void more() {
        promise = 24;
        FogKept x = moorWith(3, 8, 3, 8, 0, 26, 3, 14);
        due("ON 0", x.more(0), 0);
        due("ON 1: in it", x.more(1), 0);
        due("ON 2: the latest, where the walker comes", x.more(2), 1);
        due("ON 5", x.more(5), 4);
        x.fog(2);
        due("FOG in it already: four in hour 1", x.more(2), 0);
        due("FOG stays", x.now(1), 2);
        due("n -1", x.more(-1), BEYOND);
        due("n 61", x.more(61), BEYOND);
        due("n 60", x.more(60), 11);
        due("no walkers", new FogKept().more(60), 0);
    }

    private static void best() {
        promise = 25;
        FogKept x = moorWith(3, 8, 3, 8, 3, 20, 3, 20, 3, 20, 3, 20);
        x.fog(1);
        due("ON 0", x.best(0), 0);
        due("ON 1: all", x.best(1), 0);
        due("ON 2: most", x.best(2), 20);
        due("VILLAGE stays", x.now(5), 35);
        due("ON 25: all again", x.best(25), 0);
        due("ON 30", x.best(30), 20);
        due("ON 24", x.best(24), 20);
        due("n -1", x.best(-1), BEYOND);
        due("n 31", x.best(31), BEYOND);
        due("no walkers", new FogKept().best(30), 0);
    }

    private static void feedAndWipe() {
        promise = 26;
        FogKept x = new FogKept();
        due("n 0", x.feed(0, 0), BEYOND);
        due("n 5", x.feed(0, 5), BEYOND);
        due("n -1", x.feed(0, -1), BEYOND);
        due("one", x.feed('f', 1), 1);
        due("two, the lowest", x.feed('x' << 24 | 'y' << 16 | 'o' << 8 | 'g', 2), 3);
        due("three, the highest first", x.feed(' ' << 16 | '1' << 8 | '7', 3), 6);
        due("moor", x.moor(), 1);
        due("FOG", x.now(1), 1 << 17);
        for (int i = 1; i <= 29; i++) {
            due("four", x.feed(0, 4), 4 * i);
        }
        due("117", x.feed(0, 1), 117);
        due("too many", x.feed(0, 4), FULL);
        due("n 5 then", x.feed(0, 5), BEYOND);
        due("120", x.feed(0, 3), 120);
        due("one too many", x.feed(0, 1), FULL);
        due("count", x.count(1), 120);
        due("FULL twice", x.status(1), 2);
        promise = 27;
        due("wipe", x.wipe(), 120);
        due("wipe again", x.wipe(), 0);
        due("count then", x.count(1), 0);
        due("feed then", x.feed(0, 4), 4);
    }

    private static void fault(String text, int place) {
        FogKept x = moorWith(3, 1);
        x.fog(6);
        due("'" + text + "'", moorOf(x, text), -1 - place);
        due("THE TAPE behind '" + text + "'", x.count(1), 0);
        due("FOG behind '" + text + "'", x.now(1), 6);
        due("VILLAGE behind '" + text + "'", x.now(5), 35);
        due("WALKERS behind '" + text + "'", x.count(0), 1);
        due("findings behind '" + text + "'", x.status(-1), 0);
    }

    private static void faults() {
        fault("", 0);
        fault("   ", 3);
        fault(";", 0);
        fault("fog", 3);
        fault("fog ", 4);
        fault("fog 24", 4);
        fault("fog x", 4);
        fault("fog 3 4", 6);
        fault("fog 3 to", 8);
        fault("fog 3 to 2", 9);
        fault("fog 3 to 24", 9);
        fault("fog 3 to to", 9);
        fault("fog 3;", 6);
        fault("fog 3; ", 7);
        fault("fog 3;;", 6);
        fault("fog 3,", 5);
        fault("fog 3\tto 5", 5);
        fault("fogs 3", 0);
        fault("fo 3", 0);
        fault("Fog 3", 0);
        fault("\u00e6", 0);
        fault(" \n", 1);
        fault("village 36", 8);
        fault("village", 7);
        fault("village 99999999999999999999999999", 8);
        fault("village 4294967296", 8);
        fault("walker", 6);
        fault("walker 5", 7);
        fault("walkerat 5", 0);
        fault("walker at", 9);
        fault("walker atz 5", 7);
        fault("zalker at 5", 0);
        fault("walker bt 5", 7);
        fault("walker at 36", 10);
        fault("walker at at", 10);
        fault("walker at 5 at 6", 12);
        fault("walker at 5 heading", 19);
        fault("walker at 5 heading 4", 20);
        fault("walker at 5 hopes", 17);
        fault("walker at 5 hopes 16", 18);
        fault("walker at 5 hopes 3 heading 2", 20);
        fault("walker at 5 hopes 3 hopes 3", 20);
        fault("walker at 5 heading 1 heading 1", 22);
        fault("walker at 5 heading 1 to 2", 22);
        fault("walker at 5; fog 3; village 7; clear 25", 37);
        fault("walker at 5 fog 3", 12);
        fault("clear 23 to 22", 12);
        fault("at 3", 0);
        fault("3", 0);
        fault("heading 3", 0);
    }

    private static void moor() {
        promise = 28;
        FogKept x = new FogKept();
        due("all sorts", moorOf(x, "walker at 5;shepherd at 6 heading 3; widow at 7 hopes 15"), 3);
        due("more", moorOf(x, "  lost at35heading2hopes9 ;  canon at 000 ;bailiff at 1 heading 0 hopes 0"), 3);
        int[][] told = {{0, 5, 0, 0}, {1, 6, 3, 0}, {2, 7, 0, 15}, {3, 35, 2, 9}, {4, 0, 0, 0}, {5, 1, 0, 0}};
        for (int w = 0; w < 6; w++) {
            due("KIND", x.of(w, 0), told[w][0]);
            due("CELL", x.of(w, 1), told[w][1]);
            due("START", x.of(w, 2), told[w][1]);
            due("HEADING", x.of(w, 3), told[w][2]);
            due("HOPE", x.of(w, 4), told[w][3]);
            due("FREE", x.of(w, 5), -1);
            due("AS none", x.of(w, 6), -1);
        }
        due("THE TAPE", x.count(1), 0);
        due("fog", moorOf(x, "fog 0 to 23; clear 1 to 22; fog 5; fog 7 to 7; clear 0"), 5);
        due("FOG", x.now(1), 1 << 23 | 1 << 5 | 1 << 7);
        due("clear what is clear", moorOf(x, "clear 0 to 3"), 1);
        due("FOG then", x.now(1), 1 << 23 | 1 << 5 | 1 << 7);
        due("villages", moorOf(x, "village 0;village 12"), 2);
        due("VILLAGE", x.now(5), 12);
        due("the last village", moorOf(x, "village 35"), 1);
        due("VILLAGE then", x.now(5), 35);
        due("two more and a 9th", moorOf(x, "lost at 1;lost at 2; lost at 3"), -1 - 21);
        due("none came", x.count(0), 6);
        due("two more", moorOf(x, "lost at 1;lost at 2"), 2);
        due("a 9th", moorOf(x, "fog 1; walker"), -1 - 7);
        due("a 9th that isn't", moorOf(x, "fog 1; walkers"), -1 - 7);
        due("no findings", x.status(-1), 0);
        feedText(x, "village 3");
        x.feed(255, 1);
        due("byte 255", x.moor(), -1 - 9);
        FogKept full = new FogKept();
        StringBuilder text = new StringBuilder("fog 1");
        for (int i = 0; i < 19; i++) {
            text.append(";fog 2");
        }
        due("120 bytes", moorOf(full, text + "3"), 20);
        due("FOG of 120 bytes", full.now(1), 1 << 23 | 6);
        faults();
    }

    private static void sheet() {
        promise = 29;
        FogKept x = new FogKept();
        due("sheet(0, 8, 40)", x.sheet(0, 8, 40), 40);
        due("sheet(3, 64, 0)", x.sheet(3, 64, 0), 0);
        due("it is not MISSING", x.lays(3), 0);
        due("sheet(3, 0, 7)", x.sheet(3, 0, 7), 0);
        due("it is MISSING", x.lays(3), MISSING);
        due("no such sheet", x.sheet(4, 8, 1), BEYOND);
        due("no such sheet, too", x.sheet(-1, 8, -1), BEYOND);
        due("other bits", x.sheet(0, 32, 1), BEYOND);
        due("other bits, too", x.sheet(0, -8, -1), BEYOND);
        due("n below 0", x.sheet(0, 8, -1), SIZE);
        due("n below 0 with bits 0", x.sheet(0, 0, LEAST), SIZE);
        due("n above", x.sheet(0, 16, 41), BEYOND);
        due("n above with bits 0", x.sheet(0, 0, 41), BEYOND);
        due("it stays", x.write(0, 39, 5), 0);
        due("as it was", x.write(0, 39, 6), 5);
        due("anew", x.sheet(0, 8, 40), 40);
        due("all 0", x.write(0, 39, 6), 0);
    }

    private static void write() {
        promise = 30;
        FogKept x = new FogKept();
        x.sheet(0, 8, 2);
        x.sheet(1, 16, 2);
        x.sheet(2, 64, 2);
        due("8 bits", x.write(0, 1, 0x1234567L), 0);
        due("8 bits are", x.write(0, 1, 127), 0x67);
        due("8 bits most", x.write(0, 1, -128), 127);
        due("8 bits least", x.write(0, 1, 200), -128);
        due("8 bits, cut", x.write(0, 1, 0), -56);
        due("16 bits", x.write(1, 0, 0x1234567L), 0);
        due("16 bits are", x.write(1, 0, -1), 0x4567);
        due("16 bits below 0", x.write(1, 0, 40000), -1);
        due("16 bits, cut", x.write(1, 0, 0), 40000 - 65536);
        due("64 bits", x.write(2, 0, Long.MIN_VALUE), 0);
        due("64 bits are", x.write(2, 0, Long.MAX_VALUE), Long.MIN_VALUE);
        due("64 bits are, too", x.write(2, 0, BEYOND), Long.MAX_VALUE);
        due("no finding", x.write(2, 0, 1), BEYOND);
        due("no findings", x.status(-1), 0);
        due("the other number", x.write(2, 1, 1), 0);
        due("no such sheet", x.write(4, 0, 1), BEYOND);
        due("no such sheet, too", x.write(-1, 9, 1), BEYOND);
        due("MISSING", x.write(3, 9, 1), MISSING);
        due("no such number", x.write(0, 2, 1), BEYOND);
        due("no such number, too", x.write(0, -1, 1), BEYOND);
        due("findings", x.status(0) * 10 + x.status(5), 41);
    }

    private static FogKept sheetsOf(int... numbers) {
        FogKept x = new FogKept();
        x.sheet(0, 16, numbers.length);
        for (int i = 0; i < numbers.length; i++) {
            x.write(0, i, numbers[i]);
        }
        return x;
    }

    private static void sheetIs(FogKept x, int s, int... numbers) {
        for (int i = 0; i < numbers.length; i++) {
            due("number " + i, x.write(s, i, numbers[i]), numbers[i]);
        }
        due("no more numbers", x.write(s, numbers.length, 0), BEYOND);
    }

    private static void copy() {
        promise = 31;
        FogKept x = sheetsOf(1, 2, 3, 4, 5);
        x.sheet(1, 16, 3);
        x.sheet(2, 8, 3);
        due("to another", x.copy(0, 2, 1, 0, 3), 3);
        sheetIs(x, 1, 3, 4, 5);
        due("to a higher place", x.copy(0, 0, 0, 1, 4), 4);
        sheetIs(x, 0, 1, 1, 2, 3, 4);
        due("to a lower place", x.copy(0, 2, 0, 0, 3), 3);
        sheetIs(x, 0, 2, 3, 4, 3, 4);
        due("none", x.copy(0, 5, 1, 3, 0), 0);
        due("no such sheet", x.copy(4, 0, 3, 0, 1), BEYOND);
        due("no such sheet, too", x.copy(3, 0, -1, 0, 1), BEYOND);
        due("MISSING", x.copy(3, 0, 0, 0, 1), MISSING);
        due("MISSING, too", x.copy(0, -1, 3, 0, 1), MISSING);
        due("bits", x.copy(0, -1, 2, 0, 99), KIND);
        due("from below 0", x.copy(0, -1, 1, 0, 1), BEYOND);
        due("to below 0", x.copy(0, 0, 1, -1, 1), BEYOND);
        due("n below 0", x.copy(0, 1, 1, 1, -1), BEYOND);
        due("not so many", x.copy(1, 1, 0, 0, 3), BEYOND);
        due("not so many, too", x.copy(0, 0, 1, 1, 3), BEYOND);
        due("none from behind", x.copy(0, 6, 1, 0, 0), BEYOND);
        due("most", x.copy(0, MOST, 1, MOST, MOST), BEYOND);
        due("most, too", x.copy(0, 1, 1, 1, MOST), BEYOND);
        due("most of n 1", x.copy(0, MOST, 1, 0, 1), BEYOND);
        sheetIs(x, 1, 3, 4, 5);
    }

    private static void lays() {
        promise = 32;
        FogKept x = sheetsOf(15, 16, -1, 0, 7);
        for (int w = 0; w < 4; w++) {
            x.walker(3, 0);
            x.set(w, 4, 5);
        }
        due("lays", x.lays(0), 2);
        int[] hopes = {15, 5, 5, 0};
        for (int w = 0; w < 4; w++) {
            due("hope of " + w, x.of(w, 4), hopes[w]);
        }
        x.sheet(1, 64, 1);
        x.write(1, 0, 1L << 32 | 3);
        due("a long number", x.lays(1), 0);
        x.write(1, 0, 3);
        due("fewer numbers than WALKERS", x.lays(1), 1);
        due("MISSING", x.lays(2), MISSING);
        due("no such sheet", x.lays(4), BEYOND);
        due("no such sheet, too", x.lays(-1), BEYOND);
    }

    private static void book() {
        promise = 33;
        FogKept x = sheetsOf(99, 99, 99, 99, 99);
        x.walker(0, 12);
        due("book", x.book(0, 0), 5);
        sheetIs(x, 0, 12, 6, 0, 0, 1);
        due("HOUR stays", x.now(0), 0);
        due("MISSING", x.book(1, 9), MISSING);
        due("no such sheet", x.book(4, 0), BEYOND);
        due("no such walker", x.book(0, 1), BEYOND);
        due("no such walker, too", x.book(0, -1), BEYOND);
        x.sheet(2, 8, 40);
        due("40", x.book(2, 0), 40);
        due("the last", x.write(2, 39, 0), x.on(0, 39, 0));
    }

    private static void read() {
        promise = 34;
        FogKept x = sheetsOf(14, 8);
        x.walker(5, 14);
        // Up in hour 0: walker 0, widow 0, shepherd 3; two steps: canon and bailiff never to 8.
        due("one up", x.read(0, 0), 3);
        x.write(0, 1, 2);
        due("two up: canon, bailiff", x.read(0, 0), 2);
        x.write(0, 1, 14);
        due("it stays: lost, any heading", x.read(0, 0), 4);
        due("KIND stays", x.of(0, 0), 5);
        x.write(0, 0, 13);
        due("it isn't there", x.read(0, 0), 0);
        x.sheet(1, 64, 0);
        due("no numbers", x.read(1, 0), 24);
        x.sheet(1, 64, 1);
        x.write(1, 0, 14);
        due("it is there", x.read(1, 0), 24);
        x.write(1, 0, 14 | 1L << 32);
        due("a long number", x.read(1, 0), 0);
        due("MISSING", x.read(2, 9), MISSING);
        due("no such sheet", x.read(-1, 0), BEYOND);
        due("no such walker", x.read(1, 1), BEYOND);
        due("no such walker, too", x.read(1, -1), BEYOND);
    }

    private static void images() {
        promise = 35;
        FogKept x = moorWith(3, 4, 3, 4);
        x.set(0, 4, 7);
        x.keep(0, 1);
        x.set(0, 4, 9);
        x.fog(77);
        x.village(4);
        x.hours(3);
        due("image", x.image(), 1);
        x.walker(0, 0);
        x.free(0);
        x.set(0, 1, 9);
        x.set(0, 2, 9);
        x.set(0, 4, 2);
        x.turn(0, 1);
        x.fog(0);
        x.village(0);
        x.hours(20);
        x.sheet(0, 8, 3);
        x.feed(1, 2);
        promise = 36;
        for (int again = 0; again < 2; again++) {
            due("undo", x.undo(), 2);
            int[] told = {3, 4, 4, 3, 9, 1, 0, 0, 1};
            for (int what = 0; what < told.length; what++) {
                due("of(0, " + what + ")", x.of(0, what), told[what]);
            }
            due("AS", x.of(1, 6), 7);
            due("HOUR", x.now(0), 3);
            due("FOG", x.now(1), 77);
            due("VILLAGE", x.now(5), 4);
            x.hours(9);
            x.turn(0, 5);
        }
        due("THE TAPE stays", x.count(1), 2);
        due("the sheet stays", x.sheet(0, 0, 0) + x.copy(0, 0, 0, 0, 0), MISSING);
        x.walker(0, 5);
        x.image();
        x.walker(0, 5);
        due("the latest", x.undo(), 3);
        promise = 37;
        due("tear", x.tear(), 1);
        due("tear again", x.tear(), 0);
        due("undo then", x.undo(), NONE);
        due("it stays", x.count(0), 3);
        due("findings stay", x.status(-1), 2);
    }

    private static void countAndStatus() {
        promise = 38;
        FogKept x = moorWith(3, 4, 3, 4, 5, 4);
        x.fog(1 << 23 | 6);
        x.feed(0, 3);
        x.keep(0, 2);
        due("WALKERS", x.count(0), 3);
        due("bytes", x.count(1), 3);
        due("KEPT", x.count(2), 2);
        due("hours", x.count(3), 3);
        due("count(-1)", x.count(-1), BEYOND);
        due("count(4)", x.count(4), BEYOND);
        promise = 39;
        due("two", x.status(0), 2);
        due("two in all", x.status(-1), 2);
        due("status(-2)", x.status(-2), BEYOND);
        due("status(7)", x.status(7), BEYOND);
        due("counted", x.status(0), 4);
        for (int w = 3; w < 9; w++) {
            x.walker(0, 0);
        }
        x.as(0, 4);
        x.undo();
        x.undo();
        x.free(1);
        x.lays(3);
        x.sheet(0, 8, -1);
        int[] each = {4, 1, 1, 2, 1, 1, 1};
        for (int which = 0; which < 7; which++) {
            due("status(" + which + ")", x.status(which), each[which]);
        }
        due("all", x.status(-1), 11);
        x.image();
        x.free(-1);
        x.undo();
        due("undo takes none back", x.status(0), 5);
    }

    public static void main(String[] args) {
        newObject();
        fog();
        village();
        at();
        walker();
        of();
        set();
        turnAndAs();
        freeAndKeep();
        paths();
        collisions();
        lastHour();
        now();
        on();
        looks();
        looksEnd();
        heading();
        begin();
        kind();
        hour();
        hope();
        more();
        best();
        feedAndWipe();
        moor();
        sheet();
        write();
        copy();
        lays();
        book();
        read();
        images();
        countAndStatus();
        System.out.println(asked + " answers asked, " + wrong + " not as due");
        if (wrong != 0) {
            System.exit(1);
        }
    }
}
