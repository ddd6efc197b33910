import java.util.ArrayList;
import java.util.List;
import java.util.function.Supplier;

/**
 * The boundary cases that the promises 1 to 39 name, sentence by sentence: the last value that is
 * allowed and the first that is not, nothing there yet and all of it full, what is cut, and refusals.
 */
public final class BoundaryTest {
    private static final int BEYOND = Edge.BEYOND;
    private static final int FULL = Edge.FULL;
    private static final int KIND = Edge.KIND;
    private static final int NONE = Edge.NONE;
    private static final int STATE = Edge.STATE;
    private static final int MISSING = Edge.MISSING;
    private static final int SIZE = Edge.SIZE;
    private static final int ALL_DAY = Edge.ALL_DAY;
    private static final int LEAST = Edge.LEAST;
    private static final int MOST = Edge.MOST;
    private static final Supplier<FogKept> NOTHING = FogKept::new;
    private static final Supplier<FogKept> SOME = Edge::some;
    private static final Supplier<FogKept> CROWD = Edge::full;

    private static void due(String call, long got, long want) {
        Edge.due(call, got, want);
    }

    /** A moor with walkers told as kind, cell, heading, kind, cell, heading, .. */
    private static FogKept headed(int fog, int village, int... told) {
        FogKept x = new FogKept();
        x.fog(fog);
        x.village(village);
        for (int i = 0; i < told.length; i += 3) {
            x.walker(told[i], told[i + 1]);
            x.set(i / 3, 3, told[i + 2]);
        }
        return x;
    }

    /** That many that are LOST AT a CELL, in FOG by hours. */
    private static FogKept lost(int many, int cell, int fog) {
        FogKept x = new FogKept();
        for (int w = 0; w < many; w++) {
            x.walker(3, cell);
        }
        x.fog(fog);
        return x;
    }

    private static FogKept after(FogKept x, int hours) {
        x.hours(hours);
        return x;
    }

    private static FogKept kept(FogKept x, int walker, int other) {
        x.keep(walker, other);
        return x;
    }

    // ---- the moor

    private static void newObject() {
        Edge.says(1, "No WALKERS");
        due("count(0)", new FogKept().count(0), 0);
        for (int cell = 0; cell < 36; cell++) {
            due("at(" + cell + ")", new FogKept().at(cell), 0);
        }
        due("the first one", new FogKept().walker(0, 0), 0);
        due("KEPT", new FogKept().now(3), 0);
        due("GLAD", new FogKept().now(4), 0);
        Edge.says(1, "no FOG");
        due("now(1)", new FogKept().now(1), 0);
        due("count(3)", new FogKept().count(3), 0);
        for (int h = 1; h <= 25; h++) {
            due("FOG in HOUR " + h, after(new FogKept(), h).now(2), 0);
        }
        Edge.says(1, "THE TAPE is empty");
        due("count(1)", new FogKept().count(1), 0);
        due("wipe()", new FogKept().wipe(), 0);
        due("moor()", new FogKept().moor(), -1);
        due("feed", new FogKept().feed(0, 1), 1);
        Edge.says(1, "no image is kept");
        due("tear()", new FogKept().tear(), 0);
        Edge.refused("undo()", NOTHING, NONE, x -> x.undo());
        for (int which = -1; which < 7; which++) {
            due("status(" + which + ")", new FogKept().status(which), 0);
        }
        FogKept other = Edge.full();
        other.status(9);
        Edge.same("the use of another object", new FogKept(), new FogKept());
        due("status(-1)", new FogKept().status(-1), 0);
    }

    private static void fog() {
        Edge.says(2, "FOG becomes a set of hours of the day (0 to 16777215)");
        for (int h = 0; h < 24; h++) {
            FogKept x = new FogKept();
            due("fog(1 << " + h + ")", x.fog(1 << h), 0);
            due("FOG", x.now(1), 1 << h);
            for (int now = 0; now < 48; now++) {
                due("FOG in HOUR " + now, x.now(2), now % 24 == h ? 1 : 0);
                x.hours(1);
            }
        }
        Edge.says(2, "what it was");
        FogKept x = new FogKept();
        due("fog(most)", x.fog(ALL_DAY), 0);
        due("fog(most) again", x.fog(ALL_DAY), ALL_DAY);
        due("fog(least)", x.fog(0), ALL_DAY);
        due("fog(least) again", x.fog(0), 0);
        due("no finding", x.status(-1), 0);
        Edge.says(2, "BEYOND");
        for (int hours : new int[] {-1, ALL_DAY + 1, LEAST, MOST}) {
            Edge.refusedInAllMoors("fog(" + hours + ")", BEYOND, m -> m.fog(hours));
        }
    }

    private static void village() {
        Edge.says(3, "VILLAGE becomes a CELL");
        for (int cell : new int[] {0, 35}) {
            FogKept x = kept(lost(2, cell, 0), 0, 1);
            x.village(cell);
            due("VILLAGE", x.now(5), cell);
            due("KEPT in it", x.hours(1), 3);
            x.village(35 - cell);
            due("KEPT no more", x.hours(1), 0);
        }
        Edge.says(3, "what it was");
        FogKept x = new FogKept();
        due("village(0)", x.village(0), 35);
        due("village(35)", x.village(35), 0);
        due("village(35) again", x.village(35), 35);
        due("no finding", x.status(-1), 0);
        Edge.says(3, "BEYOND");
        for (int cell : new int[] {-1, 36, LEAST, MOST}) {
            Edge.refusedInAllMoors("village(" + cell + ")", BEYOND, m -> m.village(cell));
        }
    }

    private static void at() {
        Edge.says(4, "WALKERS AT a CELL, as a set");
        for (int cell : new int[] {0, 35}) {
            due("none there", lost(8, 35 - cell, 0).at(cell), 0);
            for (int many = 1; many <= 8; many++) {
                due(many + " there", lost(many, cell, 0).at(cell), (1 << many) - 1);
            }
            FogKept x = lost(8, 35 - cell, 0);
            x.set(7, 1, cell);
            due("the last one alone", x.at(cell), 128);
            x.set(7, 1, 35 - cell);
            x.set(0, 1, cell);
            due("the first one alone", x.at(cell), 1);
        }
        Edge.changesNothing("at(7)", CROWD, 3, x -> x.at(7));
        Edge.says(4, "BEYOND");
        for (int cell : new int[] {-1, 36, LEAST, MOST}) {
            Edge.refusedInAllMoors("at(" + cell + ")", BEYOND, x -> x.at(cell));
        }
    }

    // ---- walkers

    private static void walker() {
        Edge.says(5, "One more AT a CELL: the number");
        for (int kind = 0; kind < 6; kind++) {
            for (int cell : new int[] {0, 35}) {
                FogKept x = new FogKept();
                due("the first", x.walker(kind, cell), 0);
                int[] told = {kind, cell, cell, 0, 0, -1, -1};
                for (int what = 0; what < told.length; what++) {
                    due("of(0, " + what + ")", x.of(0, what), told[what]);
                }
            }
        }
        FogKept x = new FogKept();
        for (int w = 0; w < 8; w++) {
            due("number " + w, x.walker(3, 4), w);
        }
        due("no finding", x.status(-1), 0);
        FogKept again = new FogKept();
        again.image();
        again.walker(3, 4);
        again.walker(3, 4);
        again.set(0, 3, 3);
        again.set(0, 4, 15);
        again.keep(0, 1);
        again.undo();
        due("the first again", again.walker(1, 9), 0);
        int[] told = {1, 9, 9, 0, 0, -1, -1};
        for (int what = 0; what < told.length; what++) {
            due("of(0, " + what + "), nothing left of the one before", again.of(0, what), told[what]);
        }
        Edge.says(5, "BEYOND: kind, cell");
        for (int kind : new int[] {-1, 6, LEAST, MOST}) {
            Edge.refusedInAllMoors("walker(" + kind + ", 0), also for a 9th", BEYOND, m -> m.walker(kind, 0));
        }
        for (int cell : new int[] {-1, 36, LEAST, MOST}) {
            Edge.refusedInAllMoors("walker(5, " + cell + "), also for a 9th", BEYOND, m -> m.walker(5, cell));
        }
        Edge.says(5, "FULL");
        Edge.refused("a 9th", CROWD, FULL, m -> m.walker(0, 0));
        Edge.refused("a 9th of the last KIND AT the last CELL", CROWD, FULL, m -> m.walker(5, 35));
    }

    private static void of() {
        Edge.says(6, "Of one: what 0 KIND, 1 CELL, 2 START, 3 HEADING, 4 HOPE, 5 KEPT WITH (-1: FREE), 6 AS (-1: FREE), "
            + "7 STEPS, 8 TURNS in this HOUR");
        int[][] told = {{0, 2, 3, 0, 5, 2, 6, 1, 0}, {3, 2, 8, 3, 6, 0, 5, 0, 1}, {5, 13, 13, 1, 9, 3, 9, 1, 0}};
        int[] ones = {0, 2, 3};
        for (int i = 0; i < ones.length; i++) {
            for (int what = 0; what < 9; what++) {
                int one = ones[i];
                int asked = what;
                Edge.changesNothing("of(" + one + ", " + what + ")", SOME, told[i][what], x -> x.of(one, asked));
            }
        }
        due("KEPT WITH, FREE", Edge.some().of(1, 5), -1);
        due("AS, FREE", Edge.some().of(1, 6), -1);
        due("KEPT WITH the last", Edge.full().of(6, 5), 7);
        Edge.says(6, "BEYOND");
        Edge.noSuchWalker("of(.., 0)", (x, w) -> x.of(w, 0));
        Edge.noSuchWalker("of(.., 8)", (x, w) -> x.of(w, 8));
        for (int what : new int[] {-1, 9, LEAST, MOST}) {
            Edge.refusedInAllMoors("of(0, " + what + ")", BEYOND, x -> x.of(0, what));
        }
    }

    private static void set() {
        int[] most = {0, 35, 35, 3, 15};
        Edge.says(7, "CELL (what 1; ");
        setTo(1, 35);
        Edge.says(7, "WITH another one that goes along");
        FogKept pair = Edge.full();
        due("of the higher", pair.set(7, 1, 0), 14);
        due("the lower goes along", pair.of(6, 1), 0);
        due("of the lower", pair.set(6, 1, 35), 0);
        due("the higher goes along", pair.of(7, 1), 35);
        due("they stay KEPT", pair.now(3), 255);
        due("START of the other stays", pair.of(7, 2), 14);
        due("those beside them stay", pair.at(0) << 8 | pair.at(7), 12 << 8 | 3);
        FogKept self = Edge.some();
        due("of one KEPT by itself", self.set(3, 1, 35), 13);
        due("none goes along", self.at(35), 8);
        due("of one that is FREE", self.set(1, 1, 35) >= 0 ? 1 : 0, 1);
        due("no other goes along", self.at(35), 10);
        Edge.says(7, "START (2)");
        setTo(2, 35);
        FogKept start = Edge.full();
        start.set(6, 2, 1);
        due("START of the other stays", start.of(7, 2), 14);
        Edge.says(7, "HEADING (3)");
        setTo(3, 3);
        Edge.says(7, "HOPE (4) of one becomes v: what it was");
        setTo(4, 15);
        FogKept hope = Edge.full();
        due("of one that is KEPT", hope.set(6, 4, 0), 9);
        due("AS of the other stays", hope.of(7, 6), 9);
        due("AS of it stays", hope.of(6, 6), 8);
        Edge.says(7, "BEYOND");
        for (int what = 1; what <= 4; what++) {
            int named = what;
            Edge.noSuchWalker("set(.., " + what + ", 0)", (x, w) -> x.set(w, named, 0));
            for (int v : new int[] {-1, most[what] + 1, LEAST, MOST}) {
                Edge.refusedInAllMoors("set(0, " + what + ", " + v + ")", BEYOND, x -> x.set(0, named, v));
            }
        }
        for (int what : new int[] {0, 5, -1, LEAST, MOST}) {
            Edge.refusedInAllMoors("set(0, " + what + ", 0)", BEYOND, x -> x.set(0, what, 0));
        }
    }

    /** The last one's value goes to its least and its most, and nothing else of it changes. */
    private static void setTo(int what, int most) {
        FogKept x = lost(8, 20, 0);
        int was = x.of(7, what);
        for (int v : new int[] {0, most, most, 0}) {
            int[] told = new int[7];
            for (int other = 0; other < 7; other++) {
                told[other] = other == what ? v : x.of(7, other);
            }
            due("set(7, " + what + ", " + v + ")", x.set(7, what, v), was);
            for (int other = 0; other < 7; other++) {
                due("of(7, " + other + ")", x.of(7, other), told[other]);
            }
            was = v;
        }
        due("another one's stays", x.of(6, what), what <= 2 ? 20 : 0);
        due("no finding", x.status(-1), 0);
    }

    private static void turn() {
        Edge.says(8, "One becomes one of another KIND: what it was");
        FogKept x = Edge.full();
        int was = 3;
        for (int kind : new int[] {0, 5, 0, 1, 2, 3, 4, 5}) {
            due("turn(7, " + kind + ")", x.turn(7, kind), was);
            due("KIND", x.of(7, 0), kind);
            was = kind;
        }
        int[] told = {5, 14, 14, 3, 8, 6, 9};
        for (int what = 0; what < told.length; what++) {
            due("of(7, " + what + ")", x.of(7, what), told[what]);
        }
        Edge.says(8, "BEYOND");
        Edge.noSuchWalker("turn(.., 5)", (m, w) -> m.turn(w, 5));
        for (int kind : new int[] {-1, 6, LEAST, MOST}) {
            Edge.refusedInAllMoors("turn(0, " + kind + ")", BEYOND, m -> m.turn(0, kind));
        }
    }

    private static void as() {
        String[] under = {"100000", "110000", "101000", "100100", "110010", "101001"};
        for (int hope : new int[] {0, 15}) {
            for (int kind = 0; kind < 6; kind++) {
                int is = kind;
                Supplier<FogKept> moor = () -> {
                    FogKept x = Edge.with(0, 1, is, 2);
                    x.set(1, 4, hope);
                    return x;
                };
                for (int as = 0; as < 6; as++) {
                    int asked = as;
                    if (under[kind].charAt(as) == '1') {
                        Edge.says(9, "One as one of a kind: HOPE");
                        Edge.changesNothing(kind + " as " + as, moor, hope, x -> x.as(1, asked));
                    } else {
                        Edge.says(9, "KIND: it isn't of that kind, nor of one under it");
                        Edge.refused(kind + " as " + as, moor, KIND, x -> x.as(1, asked));
                    }
                }
            }
        }
        Edge.says(9, "BEYOND: no such one, kind");
        Edge.noSuchWalker("as(.., 0)", (x, w) -> x.as(w, 0));
        Edge.noSuchWalker("as(.., 5), ahead of KIND", (x, w) -> x.as(w, 5));
        for (int kind : new int[] {-1, 6, LEAST, MOST}) {
            Edge.refusedInAllMoors("as(0, " + kind + ")", BEYOND, x -> x.as(0, kind));
        }
    }

    private static void free() {
        Edge.says(10, "One is let FREE (and whom it is KEPT WITH): whom it was");
        for (int w = 0; w < 8; w++) {
            FogKept x = Edge.full();
            int other = w ^ 1;
            due("free(" + w + ")", x.free(w), other);
            due("all but these are KEPT", x.now(3), 255 & ~(1 << w | 1 << other));
            due("WITH", x.of(w, 5) + x.of(other, 5), -2);
            due("AS", x.of(w, 6) + x.of(other, 6), -2);
        }
        FogKept self = Edge.some();
        due("of one KEPT by itself", self.free(3), 3);
        due("the others stay", self.now(3), 5);
        Edge.says(10, "BEYOND");
        Edge.noSuchWalker("free", (x, w) -> x.free(w));
        Edge.says(10, "STATE: it is FREE");
        Edge.refused("free(1)", SOME, STATE, x -> x.free(1));
        Edge.refused("free(0) of a new one", () -> Edge.with(5, 0), STATE, x -> x.free(0));
        Edge.refused("free again", () -> {
            FogKept x = Edge.full();
            x.free(7);
            return x;
        }, STATE, x -> x.free(7));
        Edge.refused("free of the other one again", () -> {
            FogKept x = Edge.full();
            x.free(7);
            return x;
        }, STATE, x -> x.free(6));
    }

    private static void keep() {
        Edge.says(11, "Two that are FREE and AT one CELL are KEPT, FOG or not: how many are KEPT then");
        for (int fog : new int[] {0, ALL_DAY}) {
            FogKept x = lost(8, 35, fog);
            for (int w = 0; w < 8; w++) {
                x.set(w, 4, 15 - w);
            }
            due("the first and the last", x.keep(0, 7), 2);
            due("of the higher first", x.keep(6, 1), 4);
            due("others", x.keep(2, 3), 6);
            due("all", x.keep(5, 4), 8);
            int[] with = {7, 6, 3, 2, 5, 4, 1, 0};
            for (int w = 0; w < 8; w++) {
                due("WITH " + w, x.of(w, 5), with[w]);
                due("AS " + w, x.of(w, 6), 15 - with[w]);
            }
        }
        Edge.says(11, "BEYOND: also one and the same");
        Edge.noSuchTwo("keep", (x, w, o) -> x.keep(w, o));
        Edge.refused("one and the same that is FREE", () -> lost(1, 0, 0), BEYOND, x -> x.keep(0, 0));
        Edge.says(11, "STATE: one isn't FREE");
        Supplier<FogKept> beside = () -> {
            FogKept x = Edge.some();
            x.set(1, 1, 2);
            x.walker(3, 13);
            return x;
        };
        Edge.refused("the first isn't", beside, STATE, x -> x.keep(0, 1));
        Edge.refused("the second isn't", beside, STATE, x -> x.keep(1, 2));
        Edge.refused("they are KEPT already", beside, STATE, x -> x.keep(0, 2));
        Edge.refused("the first is KEPT by itself", beside, STATE, x -> x.keep(3, 4));
        Edge.refused("the second is KEPT by itself", beside, STATE, x -> x.keep(4, 3));
        Edge.refused("neither is", CROWD, STATE, x -> x.keep(0, 7));
        Edge.says(11, "or they aren't AT one CELL");
        Edge.refused("one CELL on", () -> Edge.with(3, 0, 3, 1), STATE, x -> x.keep(0, 1));
        Edge.refused("one row on", () -> Edge.with(3, 0, 3, 6), STATE, x -> x.keep(1, 0));
        Edge.refused("first and last", () -> Edge.with(3, 0, 3, 35), STATE, x -> x.keep(0, 1));
    }

    // ---- hours

    /** More calls than an object is promised for: no fewer bring HOUR there. */
    private static FogKept late(int hour) {
        FogKept x = new FogKept();
        for (int i = 0; i < hour / 60; i++) {
            x.hours(60);
        }
        x.hours(hour % 60);
        x.walker(3, 4);
        x.walker(0, 5);
        return x;
    }

    private static void hours() {
        Edge.says(12, "n HOURS go (1 to 60): those that are KEPT then, as a set");
        for (int n : new int[] {1, 59, 60}) {
            FogKept x = new FogKept();
            due("hours(" + n + ") of none", x.hours(n), 0);
            due("HOUR", x.now(0), n);
            due("hours(60)", x.hours(60), 0);
            due("HOUR then", x.now(0), n + 60);
            due("all of them", lost(8, 9, ALL_DAY).hours(n), 255);
            due("all but a last one", lost(7, 9, ALL_DAY).hours(n), 63);
            due("without FOG", lost(8, 9, 0).hours(n), 0);
            due("no finding", x.status(-1), 0);
        }
        due("KEPT in the 60th", lost(2, 9, 1 << 11).hours(60), 3);
        due("FREE in the 60th", lost(2, 9, 1 << 10).hours(60), 0);
        Edge.says(12, "BEYOND");
        for (int n : new int[] {0, 61, -1, LEAST, MOST}) {
            Edge.refusedInAllMoors("hours(" + n + ")", BEYOND, x -> x.hours(n));
        }
        Edge.refused("ahead of STATE", () -> late(99999), BEYOND, x -> x.hours(61));
        Edge.refused("ahead of STATE, too", () -> late(99999), BEYOND, x -> x.hours(0));
        Edge.says(12, "STATE: HOUR would be above 99999");
        FogKept last = late(99939);
        due("to 99999", last.hours(60), 0);
        due("HOUR", last.now(0), 99999);
        due("by one", late(99998).hours(1), 0);
        Edge.refused("60 to 100000", () -> late(99940), STATE, x -> x.hours(60));
        Edge.refused("1 to 100000", () -> late(99999), STATE, x -> x.hours(1));
        Edge.refused("60 to 100059", () -> late(99999), STATE, x -> x.hours(60));
    }

    private static void now() {
        Edge.says(13, "What 0 HOUR, 1 FOG, 2 1 if there is FOG in this HOUR, else 0, 3 those that are KEPT, as a set, "
            + "4 those that are GLAD, as a set, 5 VILLAGE");
        int[] first = {0, 0, 0, 0, 0, 35};
        int[] some = {8, 1 << 20 | 1 << 7 | 1, 0, 13, 0, 13};
        int[] crowd = {0, ALL_DAY, 1, 255, 0, 7};
        for (int what = 0; what < 6; what++) {
            int asked = what;
            Edge.changesNothing("now(" + what + ") of a new object", NOTHING, first[what], x -> x.now(asked));
            Edge.changesNothing("now(" + what + ")", SOME, some[what], x -> x.now(asked));
            Edge.changesNothing("now(" + what + ") of all", CROWD, crowd[what], x -> x.now(asked));
        }
        due("all are GLAD", after(lost(8, 4, ALL_DAY), 1).now(4), 255);
        FogKept one = after(lost(8, 4, ALL_DAY), 1);
        for (int w = 0; w < 7; w++) {
            one.set(w, 4, 1);
        }
        due("the last alone is", one.now(4), 128);
        Edge.says(13, "BEYOND");
        for (int what : new int[] {-1, 6, LEAST, MOST}) {
            Edge.refusedInAllMoors("now(" + what + ")", BEYOND, x -> x.now(what));
        }
    }

    private static void on() {
        Edge.says(14, "CELL (what 0), whom it is KEPT WITH (1; -1: FREE), AS what (2; -1) of one ON n HOURS (0 to 60)");
        // Round the moor's edge in a day: 60 hours on is half a round.
        Supplier<FogKept> round = () -> Edge.with(0, 0);
        Edge.changesNothing("CELL ON 0", round, 0, x -> x.on(0, 0, 0));
        Edge.changesNothing("CELL ON 1", round, 0, x -> x.on(0, 1, 0));
        Edge.changesNothing("CELL ON 2", round, 1, x -> x.on(0, 2, 0));
        Edge.changesNothing("CELL ON 59", round, 29, x -> x.on(0, 59, 0));
        Edge.changesNothing("CELL ON 60", round, 35, x -> x.on(0, 60, 0));
        Supplier<FogKept> two = () -> {
            FogKept x = lost(2, 8, 1 << 11);
            x.set(1, 4, 15);
            return x;
        };
        int[][] due = {{0, -1, -1}, {11, -1, -1}, {12, 1, 15}, {13, -1, -1}, {59, -1, -1}, {60, 1, 15}};
        for (int[] row : due) {
            Edge.changesNothing("WITH, ON " + row[0], two, row[1], x -> x.on(0, row[0], 1));
            Edge.changesNothing("AS, ON " + row[0], two, row[2], x -> x.on(0, row[0], 2));
        }
        Edge.changesNothing("WITH the last, now", CROWD, 7, x -> x.on(6, 0, 1));
        Edge.changesNothing("AS, now", CROWD, 8, x -> x.on(6, 0, 2));
        Edge.changesNothing("WITH itself", SOME, 3, x -> x.on(3, 0, 1));
        Edge.says(14, "BEYOND");
        for (int what = 0; what < 3; what++) {
            int asked = what;
            Edge.noSuchWalker("on(.., 60, " + what + ")", (x, w) -> x.on(w, 60, asked));
            for (int n : new int[] {-1, 61, LEAST, MOST}) {
                Edge.refusedInAllMoors("on(0, " + n + ", " + what + ")", BEYOND, x -> x.on(0, n, asked));
            }
        }
        for (int what : new int[] {-1, 3, LEAST, MOST}) {
            Edge.refusedInAllMoors("on(0, 0, " + what + ")", BEYOND, x -> x.on(0, 0, what));
        }
    }

    /** 0 and 1 are KEPT WITH each other in 101 HOURS first, both GLAD then. Found by search with the model. */
    private static FogKept in101() {
        FogKept x = headed(8388607, 24, 3, 0, 0, 2, 32, 0, 2, 7, 0);
        x.set(0, 4, 1);
        x.set(1, 4, 1);
        return x;
    }

    private static void meet() {
        Edge.says(15, "In how many HOURS (0 to 100) ON two are KEPT WITH each other first");
        Edge.changesNothing("now", CROWD, 0, x -> x.meet(7, 6));
        Edge.changesNothing("in 1", () -> lost(2, 0, 1), 1, x -> x.meet(0, 1));
        Edge.changesNothing("in 24", () -> lost(2, 0, 1 << 23), 24, x -> x.meet(1, 0));
        Edge.changesNothing("again in 24", () -> after(lost(2, 0, 1), 2), 23, x -> x.meet(1, 0));
        Edge.changesNothing("in 100", () -> after(in101(), 1), 100, x -> x.meet(0, 1));
        Edge.says(15, "BEYOND: also one and the same");
        Edge.noSuchTwo("meet", (x, w, o) -> x.meet(w, o));
        Edge.says(15, "NONE");
        Edge.refused("in 101", BoundaryTest::in101, NONE, x -> x.meet(0, 1));
        Edge.refused("never in FOG", CROWD, NONE, x -> x.meet(0, 7));
        Edge.refused("never without", () -> lost(2, 0, 0), NONE, x -> x.meet(0, 1));
        Edge.refused("one KEPT by itself", () -> {
            FogKept x = Edge.some();
            x.fog(ALL_DAY);
            return x;
        }, NONE, x -> x.meet(3, 1));
    }

    /** 0 is KEPT in 101 HOURS first. Found by search with the model. */
    private static FogKept keptIn101() {
        return headed(16776703, 14, 4, 18, 3, 2, 20, 3, 5, 8, 2);
    }

    private static void when() {
        Edge.says(16, "In how many HOURS (0 to 100) ON one is KEPT first");
        Edge.changesNothing("now", CROWD, 0, x -> x.when(7));
        Edge.changesNothing("now, by itself", SOME, 0, x -> x.when(3));
        Edge.changesNothing("in 1", () -> lost(2, 0, 1), 1, x -> x.when(1));
        Edge.changesNothing("in 24", () -> lost(2, 0, 1 << 23), 24, x -> x.when(0));
        Edge.changesNothing("in 100", () -> after(keptIn101(), 1), 100, x -> x.when(0));
        Edge.says(16, "BEYOND");
        Edge.noSuchWalker("when", (x, w) -> x.when(w));
        Edge.says(16, "NONE");
        Edge.refused("in 101", BoundaryTest::keptIn101, NONE, x -> x.when(0));
        Edge.refused("alone", () -> lost(1, 0, ALL_DAY), NONE, x -> x.when(0));
        Edge.refused("without FOG", () -> lost(8, 0, 0), NONE, x -> x.when(7));
        Edge.refused("the third", () -> lost(3, 0, ALL_DAY), NONE, x -> x.when(2));
    }

    /** A WIDOW's pair that is AT the VILLAGE when it lifts first, and a day later, and not two days later. */
    private static FogKept lateFree() {
        FogKept x = after(new FogKept(), 1);
        x.fog(ALL_DAY & ~(1 << 2));
        x.walker(2, 0);
        x.walker(3, 0);
        x.set(0, 3, 2);
        x.keep(0, 1);
        x.village(0);
        return x;
    }

    /**
     * The end of 100 can't be seen here: where one goes while it is KEPT is told by its leader alone, and
     * of all KINDS, CELLS, HEADINGS and HOURS none is FREE later than in 50 HOURS but at all.
     */
    private static void till() {
        Edge.says(17, "In how many HOURS (0 to 100) ON one is FREE first");
        Edge.changesNothing("now", SOME, 0, x -> x.till(1));
        Edge.changesNothing("now, of a new one", () -> lost(1, 0, ALL_DAY), 0, x -> x.till(0));
        Edge.changesNothing("in 1", () -> kept(lost(2, 0, 0), 0, 1), 1, x -> x.till(1));
        Edge.changesNothing("in 24", () -> kept(lost(2, 0, ALL_DAY >> 1), 0, 1), 24, x -> x.till(0));
        Edge.changesNothing("in 50", BoundaryTest::lateFree, 50, x -> x.till(0));
        Edge.says(17, "BEYOND");
        Edge.noSuchWalker("till", (x, w) -> x.till(w));
        Edge.says(17, "NONE");
        Edge.refused("in FOG", CROWD, NONE, x -> x.till(7));
        Edge.refused("in the VILLAGE", () -> {
            FogKept x = kept(lost(2, 35, 0), 0, 1);
            x.village(35);
            return x;
        }, NONE, x -> x.till(1));
    }

    private static void glad() {
        Edge.says(18, "In how many HOURS (0 to 100) ON one is GLAD first");
        Edge.changesNothing("now", () -> kept(lost(2, 0, 0), 0, 1), 0, x -> x.glad(1));
        Edge.changesNothing("in 1", () -> lost(2, 0, 1), 1, x -> x.glad(0));
        Edge.changesNothing("in 24", () -> lost(2, 0, 1 << 23), 24, x -> x.glad(1));
        Edge.changesNothing("in 100", () -> after(in101(), 1), 100, x -> x.glad(0));
        Edge.says(18, "BEYOND");
        Edge.noSuchWalker("glad", (x, w) -> x.glad(w));
        Edge.says(18, "NONE");
        Edge.refused("in 101", BoundaryTest::in101, NONE, x -> x.glad(0));
        Edge.refused("KEPT AS something else", CROWD, NONE, x -> x.glad(7));
        Edge.refused("KEPT by itself, AS its own HOPE", () -> {
            FogKept x = Edge.some();
            x.fog(ALL_DAY);
            return x;
        }, NONE, x -> x.glad(3));
    }

    // ---- what is best

    private static void heading() {
        Edge.says(19, "The HEADING with which one is KEPT WITH another one soonest (within 100 HOURS)");
        int[] beside = {8, 15, 20, 13};
        for (int d = 0; d < 4; d++) {
            int to = d;
            for (int is = 0; is < 4; is++) {
                int from = is;
                Edge.changesNothing("towards " + d, () -> headed(1, 35, 0, 14, from, 3, beside[to], 0), d, x -> x.heading(0, 1));
            }
        }
        Edge.changesNothing("in 100", () -> headed(14680063, 8, 4, 18, 0, 3, 14, 2, 1, 15, 2), 3, x -> x.heading(0, 1));
        Edge.says(19, "of several the least");
        Edge.changesNothing("now", () -> {
            FogKept x = kept(lost(2, 9, 0), 0, 1);
            x.set(1, 3, 3);
            return x;
        }, 0, x -> x.heading(1, 0));
        Edge.changesNothing("all as soon", () -> headed(ALL_DAY, 35, 3, 9, 3, 3, 9, 3), 0, x -> x.heading(0, 1));
        // From the corner 5 up or right both come to nothing but a turn; down comes back later.
        Edge.changesNothing("two as soon", () -> headed(1, 35, 0, 5, 2, 3, 5, 0), 0, x -> x.heading(0, 1));
        Edge.changesNothing("two as soon, the least not 0", () -> headed(1, 35, 0, 35, 3, 3, 35, 0), 1, x -> x.heading(0, 1));
        Edge.says(19, "BEYOND: also one and the same");
        Edge.noSuchTwo("heading", (x, w, o) -> x.heading(w, o));
        Edge.says(19, "NONE");
        Edge.refused("in 101", BoundaryTest::in101, NONE, x -> x.heading(0, 1));
        Edge.refused("never", CROWD, NONE, x -> x.heading(0, 7));
        Edge.refused("without FOG", () -> headed(0, 35, 0, 14, 0, 3, 8, 0), NONE, x -> x.heading(0, 1));
    }

    private static void begin() {
        Edge.says(20, "The CELL AT which, were it there now (FREE, START stays), one is KEPT WITH another one soonest (within 30 HOURS)");
        for (int cell : new int[] {0, 1, 34, 35}) {
            int other = cell;
            Edge.changesNothing("beside one AT " + cell, () -> Edge.after(Edge.with(3, 20, 3, other), x -> x.fog(1)), cell, x -> x.begin(0, 1));
        }
        Edge.changesNothing("were it FREE", () -> {
            FogKept x = Edge.with(3, 20, 3, 20, 3, 35);
            x.keep(0, 1);
            x.fog(1);
            return x;
        }, 35, x -> x.begin(0, 2));
        // KEPT now, they would be in 0 HOURS; FREE, they are in 1, in which it goes up first.
        Edge.changesNothing("KEPT now", () -> Edge.after(kept(Edge.with(0, 20, 3, 20), 0, 1), x -> x.fog(1)), 26, x -> x.begin(0, 1));
        // From 32 it is AT 20 first, two up, and comes down to 26 by HOUR 3; its START is not where it begins.
        Edge.changesNothing("START elsewhere", () -> Edge.after(headed(7, 35, 5, 0, 0, 3, 26, 0), x -> x.set(0, 2, 14)), 32, x -> x.begin(0, 1));
        // With its START AT 20 it is KEPT by itself there.
        Edge.refused("START stays", () -> Edge.after(headed(7, 35, 5, 0, 0, 3, 26, 0), x -> x.set(0, 2, 20)), NONE, x -> x.begin(0, 1));
        Edge.changesNothing("in 30", () -> headed(1065504, 30, 1, 23, 3, 3, 30, 1), 6, x -> x.begin(0, 1));
        Edge.says(20, "of several the least");
        // Both edge cells of column 0 come to 0 in an hour: from 0 by a turn, from 6 by a step.
        Edge.changesNothing("two as soon", () -> headed(1, 35, 0, 20, 0, 3, 0, 0), 0, x -> x.begin(0, 1));
        Edge.changesNothing("two as soon, to the left", () -> headed(1, 35, 0, 20, 3, 3, 30, 0), 30, x -> x.begin(0, 1));
        Edge.changesNothing("two as soon, to the right", () -> headed(1, 35, 0, 20, 1, 3, 35, 0), 34, x -> x.begin(0, 1));
        Edge.says(20, "BEYOND: also one and the same");
        Edge.noSuchTwo("begin", (x, w, o) -> x.begin(w, o));
        Edge.says(20, "NONE");
        // Up to 30 there is a way from below alone, where no CELL is; and in the FOG a day later none comes to it.
        Edge.refused("from no CELL 36", () -> headed(1, 35, 0, 20, 0, 3, 30, 0), NONE, x -> x.begin(0, 1));
        Edge.refused("in 31", () -> headed(64, 7, 1, 27, 1, 5, 35, 3, 0, 14, 2), NONE, x -> x.begin(0, 1));
        Edge.refused("never", CROWD, NONE, x -> x.begin(0, 7));
        Edge.refused("without FOG", () -> lost(2, 0, 0), NONE, x -> x.begin(0, 1));
    }

    private static void kind() {
        Edge.says(21, "The KIND as one of which one is KEPT soonest (within 100 HOURS)");
        // In hour 0: one up, turned and one to the right, as 0, none, turned and two to the right, two up.
        int[] at = {8, 15, 8, 14, 16, 2};
        int[] best = {0, 1, 0, 3, 4, 5};
        for (int i = 0; i < at.length; i++) {
            int other = at[i];
            for (int is = 0; is < 6; is++) {
                int kind = is;
                Edge.changesNothing("to " + other, () -> headed(1, 35, kind, 14, 0, 3, other, 0), best[i], x -> x.kind(0));
            }
        }
        Edge.changesNothing("by itself", () -> Edge.after(headed(1, 35, 0, 14, 0), x -> x.set(0, 2, 2)), 5, x -> x.kind(0));
        // In hour 1 a WIDOW stays, a BAILIFF too, a WALKER does not; LOST does.
        Edge.changesNothing("in hour 1", () -> after(headed(2, 35, 3, 14, 0, 3, 14, 0), 1), 2, x -> x.kind(0));
        Edge.changesNothing("in 100", () -> {
            FogKept x = headed(8, 35, 3, 11, 0, 5, 29, 0, 0, 28, 1);
            x.set(2, 2, 35);
            return x;
        }, 2, x -> x.kind(0));
        Edge.says(21, "of several the least");
        Edge.changesNothing("KEPT now", CROWD, 0, x -> x.kind(6));
        Edge.changesNothing("KEPT now by itself", SOME, 0, x -> x.kind(3));
        Edge.says(21, "BEYOND");
        Edge.noSuchWalker("kind", (x, w) -> x.kind(w));
        Edge.says(21, "NONE");
        Edge.refused("in 101", () -> {
            FogKept x = headed(16, 35, 2, 23, 0, 2, 6, 3, 0, 11, 2);
            x.set(2, 2, 12);
            return x;
        }, NONE, x -> x.kind(0));
        Edge.refused("without FOG", () -> lost(8, 0, 0), NONE, x -> x.kind(7));
    }

    private static void hour() {
        Edge.says(22, "The hour of the day (0 to 23) in which alone FOG must be, so that two are KEPT WITH each other soonest (within 60 HOURS)");
        for (int fog : new int[] {0, ALL_DAY, 64}) {
            for (int h = 0; h < 26; h++) {
                int hour = h;
                Supplier<FogKept> free = () -> {
                    FogKept x = hour == 0 ? new FogKept() : after(new FogKept(), hour);
                    x.fog(fog);
                    x.walker(3, 9);
                    x.walker(3, 9);
                    return x;
                };
                Edge.changesNothing("in HOUR " + h, free, h % 24, x -> x.hour(0, 1));
            }
        }
        Edge.changesNothing("in 60", () -> after(headed(0, 35, 5, 13, 1, 2, 16, 1), 1), 12, x -> x.hour(0, 1));
        Edge.says(22, "of several the least");
        Edge.changesNothing("KEPT now", CROWD, 0, x -> x.hour(6, 7));
        Edge.changesNothing("KEPT now, of the higher first", CROWD, 0, x -> x.hour(7, 6));
        Edge.says(22, "BEYOND: also one and the same");
        Edge.noSuchTwo("hour", (x, w, o) -> x.hour(w, o));
        Edge.says(22, "NONE");
        Edge.refused("in 61", () -> headed(0, 35, 5, 13, 1, 2, 16, 1), NONE, x -> x.hour(0, 1));
        Edge.refused("never", () -> headed(ALL_DAY, 35, 3, 0, 0, 3, 1, 0), NONE, x -> x.hour(0, 1));
        Edge.refused("the third", () -> lost(3, 0, ALL_DAY), NONE, x -> x.hour(1, 2));
    }

    private static void hope() {
        Edge.says(23, "The HOPE (0 to 15) of one with which most of all are GLAD ON n HOURS (0 to 60)");
        for (int hope : new int[] {0, 1, 14, 15}) {
            Supplier<FogKept> two = () -> {
                FogKept x = lost(2, 8, 1 << 11);
                x.set(0, 4, 3);
                x.set(1, 4, hope);
                return x;
            };
            Edge.changesNothing("ON 12", two, hope, x -> x.hope(0, 12));
            Edge.changesNothing("ON 60", two, hope, x -> x.hope(0, 60));
            Edge.changesNothing("ON 11: none", two, 0, x -> x.hope(0, 11));
            Edge.changesNothing("ON 59: none", two, 0, x -> x.hope(0, 59));
            Edge.changesNothing("KEPT AS it now", () -> kept(two.get(), 0, 1), hope, x -> x.hope(0, 0));
        }
        // 1 is KEPT AS 5 and hopes for 5; with 0's HOPE at 9, AS which it is KEPT, both are.
        Edge.changesNothing("most of all", () -> {
            FogKept x = lost(2, 8, 0);
            x.set(0, 4, 5);
            x.set(1, 4, 9);
            x.keep(0, 1);
            x.set(1, 4, 5);
            x.set(0, 4, 0);
            return x;
        }, 9, x -> x.hope(0, 0));
        Edge.changesNothing("without FOG none", () -> Edge.after(lost(2, 8, 0), x -> x.set(1, 4, 3)), 0, x -> x.hope(0, 4));
        Edge.says(23, "of several the least");
        Edge.changesNothing("none is", () -> lost(1, 0, ALL_DAY), 0, x -> x.hope(0, 60));
        Edge.changesNothing("none is now", () -> Edge.after(lost(2, 0, 0), x -> x.set(0, 4, 7)), 0, x -> x.hope(0, 0));
        Edge.changesNothing("all of 6 are with each", () -> {
            FogKept x = lost(7, 0, ALL_DAY);
            x.set(6, 4, 15);
            return x;
        }, 0, x -> x.hope(6, 1));
        Edge.says(23, "BEYOND");
        Edge.noSuchWalker("hope(.., 60)", (x, w) -> x.hope(w, 60));
        Edge.noSuchWalker("hope(.., 0)", (x, w) -> x.hope(w, 0));
        for (int n : new int[] {-1, 61, LEAST, MOST}) {
            Edge.refusedInAllMoors("hope(0, " + n + ")", BEYOND, x -> x.hope(0, n));
        }
    }

    private static void more() {
        Edge.says(24, "The hour of the day (0 to 23) such that, with FOG in it, too (there may be already), most are KEPT ON n HOURS (0 to 60)");
        for (int n = 1; n <= 60; n++) {
            due("ON " + n, lost(2, 8, 0).more(n), (n - 1) % 24);
            due("of 8, ON " + n, lost(8, 8, 0).more(n), (n - 1) % 24);
        }
        Edge.changesNothing("ON 24", () -> lost(2, 8, 0), 23, x -> x.more(24));
        Edge.changesNothing("ON 60", () -> lost(2, 8, 0), 11, x -> x.more(60));
        // They head away from each other: only the FOG that there is, in hours 0 and 1, holds them till hour 2.
        Edge.changesNothing("with FOG that is there", () -> kept(headed(3, 35, 0, 14, 0, 0, 14, 2), 0, 1), 2, x -> x.more(3));
        Edge.changesNothing("there may be already", () -> lost(2, 8, 1 << 5), 0, x -> x.more(6));
        Edge.says(24, "of several the least");
        Edge.changesNothing("no WALKERS", NOTHING, 0, x -> x.more(60));
        Edge.changesNothing("ON 0", () -> lost(2, 8, 0), 0, x -> x.more(0));
        Edge.changesNothing("all are with each", CROWD, 0, x -> x.more(60));
        Edge.changesNothing("FOG in the last already", () -> lost(2, 8, 1 << 23), 0, x -> x.more(24));
        Edge.says(24, "BEYOND");
        for (int n : new int[] {-1, 61, LEAST, MOST}) {
            Edge.refusedInAllMoors("more(" + n + ")", BEYOND, x -> x.more(n));
        }
    }

    private static void best() {
        Edge.says(25, "The CELL that had best be the VILLAGE, so that most are KEPT ON n HOURS (0 to 30)");
        for (int cell : new int[] {0, 1, 34, 35}) {
            Edge.changesNothing("the last of 35", () -> Edge.after(lost(2, cell, 1), x -> x.village(20)), cell, x -> x.best(2));
        }
        // In FOG in HOUR 29: then all are, without a VILLAGE.
        Supplier<FogKept> thirty = () -> lost(2, 20, 1 << 5);
        Edge.changesNothing("ON 30", thirty, 0, x -> x.best(30));
        Edge.changesNothing("ON 29", thirty, 20, x -> x.best(29));
        Edge.changesNothing("ON 7", thirty, 20, x -> x.best(7));
        Edge.changesNothing("ON 6", thirty, 0, x -> x.best(6));
        Edge.changesNothing("most", () -> {
            FogKept x = lost(8, 35, 1);
            x.set(0, 1, 4);
            x.set(1, 1, 4);
            return x;
        }, 35, x -> x.best(30));
        Edge.says(25, "of several the least");
        Edge.changesNothing("no WALKERS", NOTHING, 0, x -> x.best(30));
        Edge.changesNothing("ON 0", CROWD, 0, x -> x.best(0));
        Edge.changesNothing("all are with each", CROWD, 0, x -> x.best(30));
        Edge.changesNothing("two as good", () -> {
            FogKept x = lost(4, 35, 1);
            x.set(0, 1, 34);
            x.set(1, 1, 34);
            return x;
        }, 34, x -> x.best(30));
        Edge.says(25, "BEYOND");
        for (int n : new int[] {-1, 31, LEAST, MOST}) {
            Edge.refusedInAllMoors("best(" + n + ")", BEYOND, x -> x.best(n));
        }
    }

    // ---- the text

    private static FogKept taped(int bytes) {
        FogKept x = Edge.some();
        x.wipe();
        Edge.feedText(x, ("village 9" + " ".repeat(111)).substring(0, bytes));
        return x;
    }

    private static void feed() {
        Edge.says(26, "THE TAPE gets the n lowest bytes of a number behind it, the highest of these first (n 1 to 4): how many it has");
        String text = "fog 2to9";
        for (int n = 1; n <= 4; n++) {
            FogKept x = new FogKept();
            for (int i = 0; i < text.length(); i += n) {
                int most = Math.min(n, text.length() - i);
                int bytes = 0x78797a7b;
                for (int j = i; j < i + most; j++) {
                    bytes = bytes << 8 | text.charAt(j);
                }
                due("feed of " + n, x.feed(bytes, most), i + most);
            }
            due("bytes", x.count(1), text.length());
            due("moor()", x.moor(), 1);
            due("FOG", x.now(1), 0x3fc);
        }
        FogKept high = new FogKept();
        due("of a number below 0", high.feed(-1, 4), 4);
        due("each byte is 255", high.moor(), -1);
        Edge.feedText(high, "village 9");
        high.feed(0xff203b20, 2);
        due("its highest is not of two", high.moor(), -1 - 11);
        Edge.feedText(high, "village 9");
        high.feed(0x2020ff20, 2);
        due("byte 255 is cut from its sign", high.moor(), -1 - 9);
        Edge.says(26, "BEYOND: n");
        for (int n : new int[] {0, 5, -1, LEAST, MOST}) {
            Edge.refusedInAllMoors("feed(32, " + n + "), also ahead of FULL", BEYOND, x -> x.feed(32, n));
        }
        Edge.says(26, "FULL");
        for (int n = 1; n <= 4; n++) {
            int many = n;
            due("120 by " + n, taped(120 - n).feed(0, n), 120);
            Edge.refused("121 by " + n, () -> taped(121 - many), FULL, x -> x.feed(32, many));
            Edge.refused(n + " more than 120", () -> taped(120), FULL, x -> x.feed(32, many));
        }
    }

    private static void wipe() {
        Edge.says(27, "THE TAPE is empty: how many it had");
        due("wipe() of none", new FogKept().wipe(), 0);
        due("wipe() of one", taped(1).wipe(), 1);
        FogKept x = Edge.full();
        due("wipe() of all", x.wipe(), 120);
        due("bytes", x.count(1), 0);
        due("wipe() again", x.wipe(), 0);
        due("nothing is left", x.moor(), -1);
        due("there is room for all", Edge.moorOf(x, " ".repeat(111) + "village 9"), 1);
        Edge.same("wipe() ahead of feed", wipedAndTaped(), taped(30));
    }

    private static FogKept wipedAndTaped() {
        FogKept x = taped(120);
        x.wipe();
        Edge.feedText(x, "village 9" + " ".repeat(21));
        return x;
    }

    private static void moor() {
        Edge.says(28, "THE TAPE is THE TEXT of a MOOR, whose ITEMS come to what there is, and empty then: how many ITEMS");
        FogKept x = new FogKept();
        due("one ITEM", Edge.moorOf(x, "fog 0"), 1);
        due("it is empty", x.count(1), 0);
        due("what there is stays", Edge.moorOf(x, "fog 23;village 0"), 2);
        due("FOG", x.now(1), 1 << 23 | 1);
        due("VILLAGE", x.now(5), 0);
        due("21 ITEMS, and it ends too early", Edge.moorOf(x, "fog 1;".repeat(12) + "fog7;".repeat(9) + " "), -1 - 118);
        due("nothing came", x.now(1), 1 << 23 | 1);
        due("20 ITEMS in 119 bytes", Edge.moorOf(x, "fog 1;".repeat(19) + "fog 2"), 20);
        due("24 ITEMS in 119 bytes, without blanks", Edge.moorOf(x, "fog1;".repeat(23) + "fog3"), 24);
        due("FOG then", x.now(1), 1 << 23 | 15);
        due("the last byte of 120", Edge.moorOf(x, " ".repeat(114) + "fog 12"), 1);
        due("FOG by it", x.now(1), 1 << 23 | 1 << 12 | 15);
        FogKept eight = new FogKept();
        due("five", Edge.moorOf(eight, "lost at 0;lost at 1;lost at 2;lost at 3;lost at 4 hopes 4"), 5);
        due("to eight", Edge.moorOf(eight, "lost at 5;lost at 6;lost at 35 heading 3 hopes 15"), 3);
        due("WALKERS", eight.count(0), 8);
        int[] told = {3, 35, 35, 3, 15, -1, -1};
        for (int what = 0; what < told.length; what++) {
            due("of(7, " + what + ")", eight.of(7, what), told[what]);
        }
        due("no finding", eight.status(-1), 0);
        Edge.says(28, "With a FAULT: -1 less its place (nothing changes but that THE TAPE is empty; no finding)");
        due("the first place", Edge.moorOf(new FogKept(), "9"), -1);
        due("the last place", Edge.moorOf(new FogKept(), " ".repeat(119) + "9"), -120);
        due("at the end of 120", Edge.moorOf(new FogKept(), " ".repeat(117) + "fog"), -121);
        String[] faulty = {"", " ", "fog", "fog 3;village 3;clear 24", "clear 0 to 23;village 36", "canon at 3 heading 2 hopes 5;"};
        int[] places = {0, 1, 3, 22, 22, 29};
        for (Supplier<FogKept> made : Edge.moors()) {
            int many = made.get().count(0);
            for (int i = 0; i < faulty.length; i++) {
                faultOf(made, faulty[i], many == 8 && i == 5 ? 0 : places[i]);
            }
            faultOf(made, "lost at 1;".repeat(8 - many) + "widow at 2", 10 * (8 - many));
        }
    }

    private static void faultOf(Supplier<FogKept> made, String text, int place) {
        FogKept x = made.get();
        x.wipe();
        FogKept untouched = made.get();
        untouched.wipe();
        due("'" + text + "'", Edge.moorOf(x, text), -1 - place);
        for (int which = -1; which < 7; which++) {
            due("status(" + which + ")", x.status(which), untouched.status(which));
        }
        Edge.same("'" + text + "'", x, untouched);
    }

    // ---- sheets

    private static void sheet() {
        Edge.says(29, "A sheet has n numbers, all 0, of 8, 16 or 64 bits");
        long[] most = {0x7fL, 0x7fffL, Long.MAX_VALUE};
        int[] bits = {8, 16, 64};
        for (int s = 0; s < 4; s++) {
            for (int b = 0; b < 3; b++) {
                for (int n : new int[] {0, 1, 39, 40}) {
                    FogKept x = Edge.full();
                    due("sheet(" + s + ", " + bits[b] + ", " + n + ")", x.sheet(s, bits[b], n), n);
                    for (int i = 0; i < n; i++) {
                        due("number " + i, x.write(s, i, Long.MAX_VALUE - (b < 2 ? most[b] + 1 : 0)), 0);
                        due("its bits", x.write(s, i, 5), b < 2 ? (Long.MAX_VALUE - most[b] - 1) << 64 - bits[b] >> 64 - bits[b] : Long.MAX_VALUE);
                    }
                    due("one more", x.write(s, n, 1), BEYOND);
                    due("anew", x.sheet(s, bits[b], 40), 40);
                    for (int i = 0; i < 40; i++) {
                        due("number " + i + " anew", x.write(s, i, 0), 0);
                    }
                }
            }
        }
        Edge.says(29, "bits 0: it is MISSING: n (0 if it is MISSING)");
        for (int n : new int[] {0, 1, 40}) {
            for (int s = 0; s < 4; s++) {
                FogKept x = Edge.full();
                due("sheet(" + s + ", 0, " + n + ")", x.sheet(s, 0, n), 0);
                due("it is MISSING", x.write(s, 0, 1), MISSING);
                due("again", x.sheet(s, 0, n), 0);
                due("the others stay", x.write(s ^ 1, 39, 1), 77 + (s ^ 1));
                due("no number is left", x.sheet(s, 64, 40) + x.write(s, 39, 1), 40);
            }
        }
        Edge.says(29, "BEYOND: no such sheet, other bits");
        Edge.noSuchSheet("sheet(.., 8, 1)", (x, s) -> x.sheet(s, 8, 1));
        Edge.noSuchSheet("sheet(.., 8, -1), ahead of SIZE", (x, s) -> x.sheet(s, 8, -1));
        for (int other : new int[] {-1, 1, 7, 9, 15, 17, 24, 32, 63, 65, 128, -8, LEAST, MOST}) {
            for (int n : new int[] {1, -1, 41}) {
                Edge.refusedInAllMoors("sheet(0, " + other + ", " + n + ")", BEYOND, x -> x.sheet(0, other, n));
            }
        }
        for (int b : new int[] {0, 8, 16, 64}) {
            Edge.says(29, "SIZE: n is below 0 (also with bits 0)");
            for (int n : new int[] {-1, LEAST}) {
                Edge.refusedInAllMoors("sheet(3, " + b + ", " + n + ")", SIZE, x -> x.sheet(3, b, n));
            }
            Edge.says(29, "BEYOND: n is above 40 (also with bits 0)");
            for (int n : new int[] {41, MOST}) {
                Edge.refusedInAllMoors("sheet(3, " + b + ", " + n + ")", BEYOND, x -> x.sheet(3, b, n));
            }
        }
    }

    /** In each row: what is written, and what it was then, by its lowest bits with the highest of them as the sign. */
    private static void lowestBits(int bits, long[][] rows) {
        FogKept x = new FogKept();
        x.sheet(2, bits, 40);
        long was = 0;
        for (long[] row : rows) {
            for (int i : new int[] {0, 39}) {
                due("write(2, " + i + ", " + row[0] + ")", x.write(2, i, row[0]), was);
            }
            was = row[1];
        }
        due("the one beside the first", x.write(2, 1, 1), 0);
        due("the one beside the last", x.write(2, 38, 1), 0);
        due("no finding", x.status(-1), 0);
    }

    private static void write() {
        Edge.says(30, "Number i of a sheet becomes v (its lowest bits): what it was");
        lowestBits(8, new long[][] {{127, 127}, {128, -128}, {255, -1}, {256, 0}, {257, 1}, {-128, -128}, {-129, 127},
            {0x0123456789abcdefL, 0xef - 256}, {Long.MIN_VALUE, 0}, {Long.MAX_VALUE, -1}, {0, 0}, {0, 0}});
        lowestBits(16, new long[][] {{127, 127}, {128, 128}, {32767, 32767}, {32768, -32768}, {65535, -1}, {65536, 0}, {65537, 1},
            {-32768, -32768}, {-32769, 32767}, {0x0123456789abcdefL, 0xcdef - 65536}, {Long.MIN_VALUE, 0}, {0, 0}, {0, 0}});
        lowestBits(64, new long[][] {{65536, 65536}, {1L << 32, 1L << 32}, {Long.MAX_VALUE, Long.MAX_VALUE},
            {Long.MIN_VALUE, Long.MIN_VALUE}, {-1, -1}, {BEYOND, BEYOND}, {MISSING, MISSING}, {0, 0}, {0, 0}});
        Edge.says(30, "BEYOND: no such sheet");
        Edge.noSuchSheet("write(.., 0, 1)", (x, s) -> x.write(s, 0, 1));
        Edge.noSuchSheet("write(.., 39, 1)", (x, s) -> x.write(s, 39, 1));
        Edge.says(30, "MISSING");
        for (int s = 0; s < 4; s++) {
            int sheet = s;
            Edge.refused("write(" + s + ", 0, 1)", NOTHING, MISSING, x -> x.write(sheet, 0, 1));
        }
        for (int i : new int[] {0, -1, 40, MOST}) {
            Edge.refused("write(3, " + i + ", 1)", SOME, MISSING, x -> x.write(3, i, 1));
        }
        Edge.says(30, "BEYOND: no such number");
        int[] many = {3, 20, 0};
        for (int s = 0; s < 3; s++) {
            int sheet = s;
            for (int i : new int[] {-1, many[s], many[s] + 1, LEAST, MOST}) {
                Edge.refused("write(" + s + ", " + i + ", 1)", SOME, BEYOND, x -> x.write(sheet, i, 1));
            }
        }
        for (int s = 0; s < 4; s++) {
            int sheet = s;
            Edge.refused("write(" + s + ", 40, 1)", CROWD, BEYOND, x -> x.write(sheet, 40, 1));
        }
    }

    private static FogKept numbered(int bits, int sizeOf0, int sizeOf1) {
        FogKept x = Edge.some();
        x.sheet(0, bits, sizeOf0);
        x.sheet(1, bits, sizeOf1);
        for (int i = 0; i < sizeOf0; i++) {
            x.write(0, i, i + 1);
        }
        for (int i = 0; i < sizeOf1; i++) {
            x.write(1, i, -i - 1);
        }
        return x;
    }

    /** Numbers 1, 2, .. of sheet 0 come to sheet t; the rest of it stays. */
    private static void copied(int bits, int size, int from, int t, int to, int n) {
        FogKept x = numbered(bits, size, size);
        due("copy(0, " + from + ", " + t + ", " + to + ", " + n + ")", x.copy(0, from, t, to, n), n);
        for (int i = 0; i < size; i++) {
            long was = t == 0 ? i + 1 : -i - 1;
            due("number " + i, x.write(t, i, 0), i >= to && i < to + n ? i - to + from + 1 : was);
            if (t == 1) {
                due("number " + i + " of the one", x.write(0, i, 0), i + 1);
            }
        }
        due("findings", x.status(-1), Edge.some().status(-1));
    }

    private static void copy() {
        Edge.says(31, "n numbers of a sheet from one on come to another one from one on (as they all were): n");
        for (int bits : new int[] {8, 16, 64}) {
            for (int t = 0; t < 2; t++) {
                copied(bits, 40, 0, t, 0, 40);
                copied(bits, 40, 0, t, 0, 0);
                copied(bits, 40, 40, t, 40, 0);
                copied(bits, 40, 0, t, 40, 0);
                copied(bits, 40, 39, t, 39, 1);
                copied(bits, 40, 39, t, 0, 1);
                copied(bits, 40, 0, t, 39, 1);
                copied(bits, 40, 0, t, 1, 39);
                copied(bits, 40, 1, t, 0, 39);
                copied(bits, 40, 0, t, 20, 20);
                copied(bits, 0, 0, t, 0, 0);
                copied(bits, 1, 0, t, 0, 1);
            }
        }
        Edge.says(31, "BEYOND: no such sheet (either)");
        Edge.noSuchSheet("copy(.., 0, 0, 0, 0)", (x, s) -> s == 0 ? 0 : x.copy(s, 0, s, 0, 0));
        Edge.noSuchSheet("copy from it", (x, s) -> x.copy(s, 0, 3, 0, 0));
        Edge.noSuchSheet("copy to it", (x, s) -> x.copy(3, 0, s, 0, 0));
        Edge.says(31, "MISSING: one is");
        Edge.refused("the first", SOME, MISSING, x -> x.copy(3, -1, 0, 0, 1));
        Edge.refused("the second", SOME, MISSING, x -> x.copy(0, -1, 3, 0, 1));
        Edge.refused("both", SOME, MISSING, x -> x.copy(3, 0, 3, 0, 0));
        Edge.refused("both of a new object", NOTHING, MISSING, x -> x.copy(0, 0, 1, 0, 0));
        Edge.says(31, "KIND: they are not of as many bits");
        int[][] others = {{0, 1}, {1, 0}, {0, 2}, {2, 0}, {1, 2}, {2, 1}};
        for (int[] two : others) {
            Edge.refused("copy of " + two[0] + " to " + two[1], SOME, KIND, x -> x.copy(two[0], 0, two[1], 0, 0));
            Edge.refused("ahead of BEYOND", SOME, KIND, x -> x.copy(two[0], -1, two[1], 41, 99));
        }
        Edge.says(31, "BEYOND: one has not so many");
        Supplier<FogKept> made = () -> numbered(16, 5, 3);
        int[][] tooMany = {{0, 0, 1, 0, 4}, {1, 0, 0, 0, 4}, {0, 0, 1, 1, 3}, {1, 1, 0, 0, 3}, {0, 3, 1, 0, 3}, {0, 6, 1, 0, 0}, {0, 0, 1, 4, 0},
            {0, 5, 1, 0, 1}, {0, 0, 1, 3, 1}, {0, MOST, 1, 0, 1}, {0, 0, 1, MOST, 1}, {0, 1, 1, 0, MOST}, {0, MOST, 1, MOST, MOST},
            {0, MOST, 1, 0, 0}, {0, 0, 1, MOST, 0}, {0, 0, 0, 1, 5}, {0, 1, 0, 0, 5}};
        for (int[] a : tooMany) {
            Edge.refused("copy" + java.util.Arrays.toString(a), made, BEYOND, x -> x.copy(a[0], a[1], a[2], a[3], a[4]));
        }
        due("just so many", made.get().copy(0, 2, 1, 0, 3), 3);
        due("just so many, too", made.get().copy(1, 0, 0, 2, 3), 3);
        Edge.refused("of 40", () -> numbered(8, 40, 40), BEYOND, x -> x.copy(0, 0, 1, 0, 41));
        Edge.says(31, "or from, to or n is below 0");
        int[][] below = {{0, -1, 1, 0, 1}, {0, 0, 1, -1, 1}, {0, 1, 1, 1, -1}, {0, -1, 1, 0, 0}, {0, 0, 1, -1, 0}, {0, LEAST, 1, 0, 1},
            {0, 0, 1, LEAST, 1}, {0, 0, 1, 0, LEAST}, {0, LEAST, 1, LEAST, LEAST}, {0, 3, 1, 3, LEAST}, {0, -1, 0, 0, 3}};
        for (int[] a : below) {
            Edge.refused("copy" + java.util.Arrays.toString(a), made, BEYOND, x -> x.copy(a[0], a[1], a[2], a[3], a[4]));
        }
    }

    private static void lays() {
        Edge.says(32, "Numbers of a sheet become HOPES of WALKERS 0, 1, .. (those that aren't 0 to 15, or stand for none, are left out): how many came");
        long[] numbers = {-1, 0, 15, 16, Long.MIN_VALUE, Long.MAX_VALUE, 1L << 32, 7};
        int[] hopes = {9, 0, 15, 9, 9, 9, 9, 7};
        FogKept x = lost(8, 0, 0);
        x.sheet(3, 64, 40);
        for (int i = 0; i < 40; i++) {
            x.write(3, i, i < 8 ? numbers[i] : 1);
        }
        for (int w = 0; w < 8; w++) {
            x.set(w, 4, 9);
        }
        due("of 40 for 8", x.lays(3), 3);
        for (int w = 0; w < 8; w++) {
            due("HOPE of " + w, x.of(w, 4), hopes[w]);
        }
        due("a sheet stays", x.write(3, 0, 0), -1);
        due("none of 40 stands for one", sheetFor(new FogKept(), 8, 40).lays(0), 0);
        due("all of 40 stand for 8", sheetFor(lost(8, 0, 0), 16, 40).lays(0), 8);
        due("all of 7 do", sheetFor(lost(8, 0, 0), 16, 7).lays(0), 7);
        due("all of 8 do", sheetFor(lost(8, 0, 0), 16, 8).lays(0), 8);
        due("9 for 8", sheetFor(lost(8, 0, 0), 16, 9).lays(0), 8);
        due("8 for 7", sheetFor(lost(7, 0, 0), 16, 8).lays(0), 7);
        due("of no numbers", sheetFor(lost(8, 0, 0), 64, 0).lays(0), 0);
        FogKept cut = sheetFor(lost(1, 0, 0), 8, 1);
        cut.write(0, 0, 256 + 15);
        due("what is cut", cut.lays(0), 1);
        due("HOPE then", cut.of(0, 4), 15);
        FogKept fewer = Edge.full();
        fewer.sheet(0, 8, 2);
        due("fewer than WALKERS", fewer.lays(0), 2);
        due("the others stay", fewer.of(2, 4) * 16 + fewer.of(7, 4), 13 * 16 + 8);
        due("AS stays", fewer.of(0, 6), 14);
        Edge.says(32, "BEYOND: no such sheet");
        Edge.noSuchSheet("lays", (m, s) -> m.lays(s));
        Edge.says(32, "MISSING");
        Edge.refused("lays(3)", SOME, MISSING, m -> m.lays(3));
        for (int s = 0; s < 4; s++) {
            int sheet = s;
            Edge.refused("lays(" + s + ")", NOTHING, MISSING, m -> m.lays(sheet));
        }
    }

    private static FogKept sheetFor(FogKept x, int bits, int n) {
        x.sheet(0, bits, n);
        return x;
    }

    private static List<Supplier<FogKept>> moorsWithSheets() {
        List<Supplier<FogKept>> moors = new ArrayList<>();
        moors.add(() -> sheetFor(new FogKept(), 8, 2));
        moors.add(SOME);
        moors.add(CROWD);
        return moors;
    }

    private static void book() {
        Edge.says(33, "A book: CELL of one ON 0, 1, 2, .. HOURS comes to a sheet, as many as it has numbers: how many");
        // Round the moor's edge in a day, with a turn in each corner.
        int[] round = {0, 0, 1, 2, 3, 4, 5, 5, 11, 17, 23, 29, 35, 35, 34, 33, 32, 31, 30, 30, 24, 18, 12, 6};
        for (int bits : new int[] {8, 16, 64}) {
            for (int n : new int[] {0, 1, 2, 39, 40}) {
                FogKept x = sheetFor(Edge.with(3, 35, 0, 0), bits, n);
                due("book of " + n, x.book(0, 1), n);
                for (int i = 0; i < n; i++) {
                    due("number " + i, x.write(0, i, -1), round[i % 24]);
                }
                due("HOUR stays", x.now(0), 0);
                due("CELL stays", x.of(1, 1), 0);
                due("of one that stays", x.book(0, 0), n);
                due("the last number", n == 0 ? 35 : x.write(0, n - 1, 0), 35);
                due("no finding", x.status(-1), 0);
            }
        }
        Edge.says(33, "BEYOND: no such sheet");
        Edge.noSuchSheet("book", (x, s) -> x.book(s, 0));
        Edge.noSuchSheet("book of the last", (x, s) -> x.book(s, 7));
        Edge.says(33, "MISSING");
        Edge.refused("book(3, 0)", SOME, MISSING, x -> x.book(3, 0));
        Edge.refused("ahead of walker", SOME, MISSING, x -> x.book(3, 4));
        Edge.refused("of a new object", NOTHING, MISSING, x -> x.book(0, 0));
        Edge.says(33, "BEYOND: walker");
        Edge.noSuchWalkerIn(moorsWithSheets(), "book(0, ..)", (x, w) -> x.book(0, w));
        Edge.refused("with no numbers, too", SOME, BEYOND, x -> x.book(2, 4));
    }

    private static FogKept reading(int kind, int cell, int heading, int... cells) {
        FogKept x = headed(0, 35, kind, cell, heading);
        x.sheet(0, 64, cells.length);
        for (int i = 0; i < cells.length; i++) {
            x.write(0, i, cells[i]);
        }
        return x;
    }

    private static void read() {
        Edge.says(34, "THE READER, a dog: numbers of a sheet are CELLS AT which one is ON 0, 1, 2, .. HOURS: "
            + "how many pairs of a KIND and a HEADING of it make it just so");
        for (int kind = 0; kind < 6; kind++) {
            int is = kind;
            for (int d = 0; d < 4; d++) {
                int to = d;
                Edge.changesNothing("no numbers", () -> reading(is, 14, to), 24, x -> x.read(0, 0));
                Edge.changesNothing("where it is", () -> reading(is, 14, to, 14), 24, x -> x.read(0, 0));
                Edge.changesNothing("where it isn't", () -> reading(is, 14, to, 13), 0, x -> x.read(0, 0));
                // Up: WALKER and WIDOW by 0, SHEPHERD by 3.
                Edge.changesNothing("one up", () -> reading(is, 14, to, 14, 8), 3, x -> x.read(0, 0));
                // Two up: CANON by 3, BAILIFF by 0.
                Edge.changesNothing("two up", () -> reading(is, 14, to, 14, 2), 2, x -> x.read(0, 0));
                Edge.changesNothing("it stays", () -> reading(is, 14, to, 14, 14), 4, x -> x.read(0, 0));
                Edge.changesNothing("too far", () -> reading(is, 14, to, 14, 35), 0, x -> x.read(0, 0));
                Edge.changesNothing("no CELL", () -> reading(is, 0, to, 0, -1), 0, x -> x.read(0, 0));
            }
        }
        Edge.changesNothing("no CELL by its higher bits", () -> {
            FogKept x = reading(3, 14, 0, 14, 14);
            x.write(0, 1, 1L << 32 | 14);
            return x;
        }, 0, x -> x.read(0, 0));
        FogKept forty = sheetFor(Edge.with(3, 14), 8, 40);
        due("book of 40", forty.book(0, 0), 40);
        due("40 that stay", forty.read(0, 0), 4);
        forty.write(0, 39, 15);
        due("but for the last", forty.read(0, 0), 0);
        FogKept led = sheetFor(kept(Edge.with(3, 14, 4, 14), 0, 1), 8, 40);
        led.fog(ALL_DAY);
        led.book(0, 0);
        due("KEPT WITH one of a lower number, any", led.read(0, 1), 24);
        due("the lower one", led.read(0, 0), 4);
        Edge.says(34, "BEYOND: no such sheet");
        Edge.noSuchSheet("read", (x, s) -> x.read(s, 0));
        Edge.noSuchSheet("read of the last", (x, s) -> x.read(s, 7));
        Edge.says(34, "MISSING");
        Edge.refused("read(3, 0)", SOME, MISSING, x -> x.read(3, 0));
        Edge.refused("ahead of walker", SOME, MISSING, x -> x.read(3, 4));
        Edge.refused("of a new object", NOTHING, MISSING, x -> x.read(0, 0));
        Edge.says(34, "BEYOND: walker");
        Edge.noSuchWalkerIn(moorsWithSheets(), "read(0, ..)", (x, w) -> x.read(0, w));
        Edge.refused("with no numbers, too", SOME, BEYOND, x -> x.read(2, 4));
    }

    // ---- images

    /** Everything of section 1 becomes something else, and the rest, too. */
    private static void changeAll(FogKept x) {
        x.hours(25);
        x.fog(0x123456);
        x.village(22);
        for (int w = 0; w < x.count(0); w++) {
            if (x.of(w, 5) >= 0) {
                x.free(w);
            }
            x.turn(w, (x.of(w, 0) + 1) % 6);
            for (int what = 1; what <= 4; what++) {
                x.set(w, what, (x.of(w, what) + 1) % new int[] {0, 36, 36, 4, 16}[what]);
            }
        }
        x.walker(4, 4);
    }

    private static void images() {
        for (Supplier<FogKept> made : Edge.moors()) {
            Edge.says(35, "All that section 1 tells (THE TAPE not) is kept: 1");
            FogKept x = made.get();
            due("image()", x.image(), 1);
            due("image() again", x.image(), 1);
            FogKept untouched = made.get();
            untouched.image();
            int findings = x.status(-1);
            changeAll(x);
            findings = x.status(-1) - findings;
            Edge.says(36, "It becomes what was kept latest");
            due("undo()", x.undo(), untouched.count(0));
            Edge.says(39, "(undo() takes none back)");
            due("status(-1)", x.status(-1), untouched.status(-1) + findings);
            Edge.says(36, "(which stays)");
            changeAll(x);
            due("undo() again", x.undo(), untouched.count(0));
            Edge.says(36, "how many WALKERS");
            Edge.sameMoor("undo()", x, untouched);
            Edge.says(37, "Nothing is kept: 1 if something was, else 0");
            FogKept torn = made.get();
            torn.image();
            due("tear()", torn.tear(), 1);
            due("tear() again", torn.tear(), 0);
            due("image() then", torn.image(), 1);
            due("tear() then", torn.tear(), 1);
            FogKept bare = made.get();
            bare.tear();
            Edge.same("tear()", torn, bare);
            Edge.says(36, "NONE: nothing is kept");
            Edge.refused("undo() behind tear()", () -> {
                FogKept y = made.get();
                y.image();
                y.tear();
                return y;
            }, NONE, y -> y.undo());
        }
        due("tear() of nothing", new FogKept().tear(), 0);
        Edge.refused("undo() of nothing", NOTHING, NONE, x -> x.undo());
        tapeAndSheetsStay();
    }

    private static void tapeAndSheetsStay() {
        Edge.says(35, "(THE TAPE not)");
        FogKept x = new FogKept();
        Edge.feedText(x, "fog 3");
        x.sheet(0, 8, 2);
        x.write(0, 1, 4);
        x.image();
        x.wipe();
        Edge.feedText(x, "village 21");
        x.write(0, 1, 9);
        x.sheet(1, 16, 1);
        x.at(99);
        due("undo() to no WALKERS", x.undo(), 0);
        due("bytes", x.count(1), 10);
        due("moor()", x.moor(), 1);
        due("VILLAGE", x.now(5), 21);
        due("FOG", x.now(1), 0);
        due("a number", x.write(0, 1, 0), 9);
        due("a sheet", x.write(1, 0, 0), 0);
        due("a finding", x.status(0), 1);
        FogKept latest = lost(3, 0, 0);
        latest.image();
        latest.walker(0, 0);
        latest.image();
        latest.walker(0, 0);
        Edge.says(36, "what was kept latest");
        due("the latest of two", latest.undo(), 4);
        due("and again", latest.undo(), 4);
        latest.tear();
        due("none before it", latest.undo(), NONE);
    }

    private static void count() {
        Edge.says(38, "0 WALKERS, 1 bytes of THE TAPE, 2 those that are KEPT, 3 hours of the day with FOG");
        int[] some = {4, 58, 3, 3};
        int[] crowd = {8, 120, 8, 24};
        for (int what = 0; what < 4; what++) {
            int asked = what;
            Edge.changesNothing("count(" + what + ") of nothing", NOTHING, 0, x -> x.count(asked));
            Edge.changesNothing("count(" + what + ") of some", SOME, some[what], x -> x.count(asked));
            Edge.changesNothing("count(" + what + ") of all", CROWD, crowd[what], x -> x.count(asked));
        }
        Edge.says(38, "BEYOND: another what");
        for (int what : new int[] {-1, 4, LEAST, MOST}) {
            Edge.refusedInAllMoors("count(" + what + ")", BEYOND, x -> x.count(what));
        }
    }

    private static void status() {
        Edge.says(39, "How many acts answered a finding ever");
        FogKept x = new FogKept();
        int all = 0;
        int[] each = new int[7];
        for (int round = 1; round <= 3; round++) {
            for (int which = 0; which < 7; which++) {
                for (int i = 0; i <= which; i++) {
                    answerFinding(x, which);
                    each[which]++;
                    all++;
                }
                Edge.says(39, "which -1: all, 0 to 6: BEYOND to SIZE");
                due("status(-1)", x.status(-1), all);
                for (int other = 0; other < 7; other++) {
                    due("status(" + other + ")", x.status(other), each[other]);
                }
            }
        }
        for (int which = -1; which < 7; which++) {
            int asked = which;
            int due = Edge.some().status(which);
            Edge.changesNothing("status(" + which + ")", SOME, due, y -> y.status(asked));
        }
        FogKept alike = new FogKept();
        alike.sheet(0, 64, 1);
        for (int finding = BEYOND; finding >= SIZE; finding--) {
            alike.write(0, 0, finding);
            due("a number like a finding", alike.write(0, 0, 0), finding);
        }
        due("is none", alike.status(-1), 0);
        Edge.says(39, "BEYOND (counted from then on): another one");
        for (int which : new int[] {-2, 7, LEAST, MOST}) {
            Edge.refusedInAllMoors("status(" + which + ")", BEYOND, y -> y.status(which));
        }
    }

    /** Has the finding answered once, FULL in an object with 120 bytes (which it fills if need be). */
    private static void answerFinding(FogKept x, int which) {
        while (which == 1 && x.count(1) < 120) {
            x.feed(32, 4);
        }
        if (x.count(0) == 0) {
            x.walker(0, 0);
        }
        long[] due = {BEYOND, FULL, KIND, NONE, STATE, MISSING, SIZE};
        long got = which == 0 ? x.at(36) : which == 1 ? x.feed(32, 1) : which == 2 ? x.as(0, 1) : which == 3 ? x.undo()
            : which == 4 ? x.free(0) : which == 5 ? x.write(0, 0, 0) : x.sheet(0, 8, -1);
        due("finding " + which, got, due[which]);
    }

    public static void main(String[] args) {
        newObject();
        fog();
        village();
        at();
        walker();
        of();
        set();
        turn();
        as();
        free();
        keep();
        hours();
        now();
        on();
        meet();
        when();
        till();
        glad();
        heading();
        begin();
        kind();
        hour();
        hope();
        more();
        best();
        feed();
        wipe();
        moor();
        sheet();
        write();
        copy();
        lays();
        book();
        read();
        images();
        count();
        status();
        Edge.end(1, 39);
    }
}
