import java.util.ArrayList;
import java.util.Arrays;
import java.util.List;

/** The boundary cases that the document's "Terms" name, sentence by sentence. */
public final class TermsTest {
    private static final int BEYOND = Edge.BEYOND;
    private static final int MISSING = Edge.MISSING;
    private static final int ALL_DAY = Edge.ALL_DAY;

    private static void says(String quote) {
        Edge.says(Edge.TERMS, quote);
    }

    private static void due(String call, long got, long want) {
        Edge.due(call, got, want);
    }

    /** New, in an HOUR, with one of a KIND AT a CELL with a HEADING. */
    private static FogKept one(int hour, int kind, int cell, int heading) {
        FogKept x = new FogKept();
        if (hour > 0) {
            x.hours(hour);
        }
        x.walker(kind, cell);
        x.set(0, 3, heading);
        return x;
    }

    private static void goes(String how, FogKept x, int hours, int cell, int heading) {
        x.hours(hours);
        due(how + ", CELL", x.of(0, 1), cell);
        due(how + ", HEADING", x.of(0, 3), heading);
    }

    private static void findings() {
        says("FINDINGS are answers below -1000000000: -1000000001 BEYOND, -1000000002 FULL, -1000000003 KIND, -1000000004 NONE, "
            + "-1000000005 STATE, -1000000006 MISSING, -1000000007 SIZE (in longs, too)");
        due("BEYOND", new FogKept().at(36), -1000000001);
        due("FULL", Edge.full().walker(0, 0), -1000000002);
        due("KIND", Edge.with(0, 0).as(0, 1), -1000000003);
        due("NONE", new FogKept().undo(), -1000000004);
        due("STATE", Edge.with(0, 0).free(0), -1000000005);
        due("MISSING", new FogKept().lays(0), -1000000006);
        due("SIZE", new FogKept().sheet(0, 8, -1), -1000000007);
        due("BEYOND in longs", new FogKept().write(4, 0, 0), -1000000001L);
        due("MISSING in longs", new FogKept().write(0, 0, 0), -1000000006L);
        says("Each act tells its findings in the order in which they are asked");
        due("walker: BEYOND, FULL", Edge.full().walker(6, 36), BEYOND);
        due("as: BEYOND, KIND", Edge.some().as(4, 5), BEYOND);
        due("free: BEYOND, STATE", Edge.some().free(4), BEYOND);
        due("keep: BEYOND, STATE", Edge.some().keep(0, 0), BEYOND);
        due("meet: BEYOND, NONE", Edge.full().meet(0, 8), BEYOND);
        due("feed: BEYOND, FULL", Edge.full().feed(0, 5), BEYOND);
        due("sheet: BEYOND, SIZE", new FogKept().sheet(4, 9, -1), BEYOND);
        due("write: BEYOND, MISSING, BEYOND", new FogKept().write(4, -1, 0), BEYOND);
        due("write: MISSING, BEYOND", new FogKept().write(3, -1, 0), MISSING);
        due("copy: BEYOND, MISSING, KIND, BEYOND", Edge.some().copy(4, -1, 3, -1, -1), BEYOND);
        due("copy: MISSING, KIND, BEYOND", Edge.some().copy(0, -1, 3, -1, -1), MISSING);
        due("copy: KIND, BEYOND", Edge.some().copy(0, -1, 1, -1, -1), Edge.KIND);
        due("book: BEYOND, MISSING, BEYOND", Edge.some().book(4, 9), BEYOND);
        due("book: MISSING, BEYOND", Edge.some().book(3, 9), MISSING);
        due("read: BEYOND, MISSING, BEYOND", Edge.some().read(-1, 9), BEYOND);
        due("read: MISSING, BEYOND", Edge.some().read(3, 9), MISSING);
        says("one that answers a finding changes nothing but status()");
        Edge.refused("an act", Edge::some, BEYOND, x -> x.set(0, 1, 36));
        says("Quotients are cut");
        due("row of 11 is 1, so up is 5", one(0, 0, 11, 0).on(0, 1, 0), 5);
        due("row of 5 is 0, so there is no up", one(0, 0, 5, 0).on(0, 1, 0), 5);
        says("Sets are told by bits");
        due("0 and 7", bits(0, 7), 129);
    }

    private static int bits(int one, int other) {
        FogKept x = new FogKept();
        for (int w = 0; w < 8; w++) {
            x.walker(3, w == one || w == other ? 4 : 5);
        }
        return x.at(4);
    }

    /** Each CELL by each HEADING: one step on, or a turn where the moor ends. */
    private static void cells() {
        says("CELLS 0 to 35, in 6 rows (row: by 6) of 6 columns (the rest)");
        due("CELL -1", new FogKept().at(-1), BEYOND);
        due("CELL 0", new FogKept().at(0), 0);
        due("CELL 35", new FogKept().at(35), 0);
        due("CELL 36", new FogKept().at(36), BEYOND);
        says("HEADINGS: 0 one row up, 1 one column to the right, 2 one row down, 3 one column to the left");
        int[] byRow = {-1, 0, 1, 0};
        int[] byColumn = {0, 1, 0, -1};
        for (int row = 0; row < 6; row++) {
            for (int column = 0; column < 6; column++) {
                for (int d = 0; d < 4; d++) {
                    int toRow = row + byRow[d];
                    int toColumn = column + byColumn[d];
                    boolean stays = toRow < 0 || toRow > 5 || toColumn < 0 || toColumn > 5;
                    int cell = row * 6 + column;
                    goes("from " + cell + " by " + d, one(0, 0, cell, d), 1, stays ? cell : toRow * 6 + toColumn, stays ? (d + 1) % 4 : d);
                }
            }
        }
        says("to TURN: the next HEADING (behind 3 comes 0)");
        int[] corners = {0, 5, 35, 30};
        for (int d = 0; d < 4; d++) {
            goes("one that is LOST turns from " + d, one(0, 3, 14, d), 1, 14, (d + 1) % 4);
            goes("four hours turn it round from " + d, one(0, 3, 14, d), 4, 14, d);
            goes("a BAILIFF turns by two from " + d, one(1, 5, 14, d), 1, 14, (d + 2) % 4);
            // In corner 0 up and left end, in 5 right and up, in 35 down and right, in 30 left and down.
            goes("a corner turns from " + d, one(0, 0, corners[d], d), 1, corners[d], (d + 1) % 4);
        }
        goes("a SHEPHERD turns from 3 to 0", one(0, 1, 14, 3), 1, 8, 0);
        goes("the edge turns from 3 to 0", one(0, 0, 12, 3), 1, 12, 0);
        // That it is 99999 at most is for promise 12, in BoundaryTest.
        says("HOUR: 0 at first (99999 at most)");
        due("HOUR", new FogKept().now(0), 0);
    }

    private static void fogAndVillage() {
        says("FOG: a set of hours of the day (0 to 23; none at first)");
        due("FOG", new FogKept().now(1), 0);
        due("24 hours", Edge.full().count(3), 24);
        says("there is FOG in an HOUR whose rest by 24 is in it");
        for (int h : new int[] {0, 1, 22, 23}) {
            FogKept x = Edge.with(3, 8, 3, 8);
            x.fog(1 << h);
            for (int hour = 0; hour < 72; hour++) {
                due("FOG in " + hour, x.now(2), hour % 24 == h ? 1 : 0);
                due("KEPT by HOUR " + hour, x.hours(1), hour % 24 == h ? 3 : 0);
            }
        }
        says("VILLAGE: a CELL (35 at first)");
        FogKept x = Edge.with(3, 35, 3, 35, 3, 34, 3, 34);
        x.keep(0, 1);
        x.keep(2, 3);
        due("VILLAGE", x.now(5), 35);
        due("KEPT AT 35, not AT 34", x.hours(1), 3);
    }

    private static void kinds() {
        says("WALKERS 0, 1, .. (at most 8) are of KINDS");
        FogKept x = new FogKept();
        for (int w = 0; w < 8; w++) {
            due("WALKER " + w, x.walker(0, 0), w);
        }
        due("a 9th", x.walker(0, 0), Edge.FULL);
        says("0 WALKER, 1 SHEPHERD under WALKER, 2 WIDOW under WALKER, 3 LOST under WALKER, 4 CANON under SHEPHERD, 5 BAILIFF under WIDOW");
        int[] under = {1, 3, 5, 9, 19, 37};
        for (int kind = 0; kind < 6; kind++) {
            int as = 0;
            for (int k = 0; k < 6; k++) {
                as |= Edge.with(kind, 0).as(0, k) == 0 ? 1 << k : 0;
            }
            due("KIND " + kind + " as", as, under[kind]);
        }
        says("each AT a CELL, with a START (the CELL AT which it came first), a HEADING (0 at first), a HOPE (0 to 15; 0 at first); "
            + "it is FREE (at first), or KEPT WITH another one (or itself), AS something (0 to 15)");
        FogKept first = Edge.with(5, 35);
        int[] told = {5, 35, 35, 0, 0, -1, -1};
        for (int what = 0; what < told.length; what++) {
            due("of(0, " + what + ") at first", first.of(0, what), told[what]);
        }
        first.hours(3);
        due("START stays where it came", first.of(0, 2), 35);
        due("CELL doesn't", first.of(0, 1) == 35 ? 1 : 0, 0);
        first.set(0, 4, 15);
        due("HOPE 15", first.of(0, 4), 15);
        due("HOPE 16", first.set(0, 4, 16), BEYOND);
        due("HOPE -1", first.set(0, 4, -1), BEYOND);
    }

    /** In each HOUR h from 0 to 35, so that every rest by 2, 3 and 4 comes with every other, and by 24 again. */
    private static void table(int what, int kind, String byHours) {
        for (int h = 0; h < 36; h++) {
            due("of KIND " + kind + " in " + h, one(h, kind, 14, 0).of(0, what), byHours.charAt(h % byHours.length()) - '0');
        }
    }

    private static void stepsAndTurns() {
        says("STEPS (in an HOUR h): WALKER: 1.");
        table(7, 0, "1");
        says("SHEPHERD: as WALKER.");
        table(7, 1, "1");
        says("WIDOW: as WALKER, if h is even, else 0.");
        table(7, 2, "10");
        says("LOST: 0.");
        table(7, 3, "0");
        says("CANON: as SHEPHERD, and 1.");
        table(7, 4, "2");
        says("BAILIFF: as WIDOW, and 1, if the rest of h by 3 is 0.");
        table(7, 5, "201110");
        says("TURNS (how often, ahead of its STEPS): WALKER: 0.");
        table(8, 0, "0");
        says("SHEPHERD: 1, if the rest of h by 3 is 0, else 0.");
        table(8, 1, "100");
        goes("a SHEPHERD in HOUR 0: ahead of its step", one(0, 1, 14, 0), 1, 15, 1);
        goes("a SHEPHERD in HOUR 2", one(2, 1, 14, 0), 1, 8, 0);
        goes("a SHEPHERD in HOUR 3", one(3, 1, 14, 0), 1, 15, 1);
        says("WIDOW: as WALKER. LOST: 1.");
        table(8, 2, "0");
        table(8, 3, "1");
        says("CANON: as SHEPHERD.");
        table(8, 4, "100");
        says("BAILIFF: as WIDOW, and 2, if the rest of h by 4 is 1.");
        table(8, 5, "0200");
        says("(Others as the KIND above.)");
        goes("a CANON in HOUR 0: turned, two to the right", one(0, 4, 14, 0), 1, 16, 1);
        goes("a BAILIFF in HOUR 9: turned by two, one down", one(9, 5, 14, 0), 1, 20, 2);
    }

    private static void going() {
        says("To GO: it TURNS so often; then STEP by STEP: to the CELL towards its HEADING, if there is one; else it TURNS once instead.");
        goes("a CANON at the edge: a turn, a step", one(1, 4, 2, 0), 1, 3, 1);
        goes("a CANON one off the edge: a step, a turn", one(1, 4, 8, 0), 1, 2, 1);
        goes("a CANON in the corner 5: two turns", one(1, 4, 5, 0), 1, 5, 2);
        goes("a CANON in the corner 35: two turns", one(1, 4, 35, 1), 1, 35, 3);
        goes("a CANON in the corner 30: two turns, behind 3 comes 0", one(1, 4, 30, 2), 1, 30, 0);
        goes("a CANON in the corner 0: two turns, behind 3 comes 0", one(1, 4, 0, 3), 1, 0, 1);
        goes("a CANON in the corner 5, right: a turn, a step", one(1, 4, 5, 1), 1, 11, 2);
        goes("one that is LOST in the corner stays", one(1, 3, 0, 3), 1, 0, 0);
        goes("a WIDOW in an odd HOUR neither turns nor goes", one(1, 2, 0, 0), 1, 0, 0);
        goes("round the moor's edge in 24 HOURS", one(0, 0, 0, 0), 24, 0, 0);
        goes("a SHEPHERD's turn sends it to the edge", one(0, 1, 5, 0), 1, 5, 2);
    }

    private static void keeping() {
        says("To be KEPT, two: each WITH the other one, AS what that one's HOPE is.");
        for (int hope : new int[] {0, 15}) {
            FogKept x = Edge.with(3, 8, 3, 8);
            x.set(0, 4, hope);
            x.set(1, 4, 7);
            x.fog(1);
            due("KEPT", x.hours(1), 3);
            due("WITH", x.of(0, 5) * 10 + x.of(1, 5), 10);
            due("AS", x.of(0, 6), 7);
            due("AS, the other", x.of(1, 6), hope);
            x.set(0, 4, 3);
            due("AS stays", x.of(1, 6), hope);
        }
        says("One by itself: WITH itself, AS its own HOPE.");
        for (int hope : new int[] {0, 15}) {
            FogKept x = one(7, 5, 20, 0);
            x.set(0, 4, hope);
            x.fog(1 << 7);
            due("KEPT", x.hours(1), 1);
            due("WITH itself", x.of(0, 5), 0);
            due("AS", x.of(0, 6), hope);
        }
    }

    /** A pair AT 14 of a WALKER and a CANON that heads down, with a LOST one elsewhere. */
    private static FogKept pair(int lower, int higher, int fog) {
        FogKept x = Edge.with(lower, 14, higher, 14, 3, 0);
        x.set(1, 3, 2);
        x.hours(1);
        x.set(0, 1, 14);
        x.set(0, 3, 0);
        x.set(1, 1, 14);
        x.set(1, 3, 2);
        x.keep(0, 1);
        x.fog(fog);
        return x;
    }

    private static void lifting() {
        says("AN HOUR goes: (1) without FOG all that are KEPT, but AT the VILLAGE, are FREE.");
        FogKept all = Edge.full();
        all.fog(0);
        due("but AT the VILLAGE", all.hours(1), 3);
        all.village(8);
        due("elsewhere all", all.hours(1), 0);
        due("WITH none", all.of(0, 5), -1);
        due("AS nothing", all.of(0, 6), -1);
        FogKept in = Edge.full();
        due("in FOG none", in.hours(60), 255);
        FogKept self = Edge.some();
        due("one KEPT by itself in the VILLAGE stays, two elsewhere don't", self.hours(1), 8);
        self.village(0);
        due("elsewhere it doesn't", self.hours(1), 0);
        // It is asked ahead of going: KEPT out of the VILLAGE, and FREE an HOUR later.
        FogKept out = pair(0, 4, 0);
        out.village(14);
        due("they go out KEPT", out.hours(1), 3);
        due("AT 8", out.at(8), 3);
        due("and are FREE then", out.hours(1), 0);
        FogKept into = pair(0, 4, 0);
        into.village(8);
        due("they don't come into it KEPT", into.hours(1), 0);
        due("each goes by itself", into.at(8) * 10 + into.at(26), 12);
        says("(2) WALKERS by numbers: one that is FREE, or KEPT WITH one of a number not below its own, GOES; "
            + "if it is KEPT WITH another one, that is AT its CELL then (its HEADING stays).");
        FogKept led = pair(0, 4, ALL_DAY);
        led.hours(1);
        due("as the lower goes", led.at(8), 3);
        due("HEADING of the other stays", led.of(1, 3), 2);
        FogKept still = pair(3, 4, ALL_DAY);
        still.hours(3);
        due("a lower one that is LOST stays", still.at(14), 3);
        due("it turns", still.of(0, 3), 3);
        due("the other doesn't, not in HOUR 3 either", still.of(1, 3), 2);
        FogKept lostHigher = pair(4, 3, ALL_DAY);
        lostHigher.hours(1);
        due("a CANON takes one that is LOST along", lostHigher.at(2), 3);
        due("who doesn't turn", lostHigher.of(1, 3), 2);
        due("one that is FREE goes", lostHigher.of(2, 3), 2);
        FogKept alone = one(7, 5, 20, 2);
        alone.fog(ALL_DAY);
        due("KEPT by itself", alone.hours(1), 1);
        due("it GOES, KEPT", alone.hours(1), 1);
        due("down", alone.of(0, 1), 26);
    }

    private static void colliding() {
        says("(3) In FOG, CELLS by numbers: of FREE ones AT it, by numbers, the first and the second are KEPT, the third and the fourth, and so on;");
        for (int many = 0; many <= 8; many++) {
            FogKept x = new FogKept();
            for (int w = 0; w < many; w++) {
                x.walker(3, 30);
            }
            x.fog(1);
            due(many + " AT one CELL", x.hours(1), (1 << (many & 6 | many & 8)) - 1);
            for (int w = 0; w < many; w++) {
                due("WITH " + w, x.of(w, 5), (w | 1) < many ? w ^ 1 : -1);
            }
            due("without FOG none", x.hours(1), 0);
        }
        FogKept between = Edge.with(3, 0, 3, 35, 3, 0, 3, 35, 3, 1, 3, 35, 3, 0, 3, 35);
        between.fog(1);
        due("in three CELLS", between.hours(1), 175);
        int[] with = {2, 3, 0, 1, -1, 7, -1, 5};
        for (int w = 0; w < 8; w++) {
            due("WITH " + w, between.of(w, 5), with[w]);
        }
        FogKept beside = Edge.with(3, 8, 3, 8, 3, 8);
        beside.keep(0, 2);
        beside.fog(3);
        due("one beside two that are KEPT is left", beside.hours(1), 5);
        beside.walker(3, 8);
        due("with one more it is KEPT", beside.hours(1), 15);
        due("WITH that one", beside.of(1, 5), 3);
        says("a BAILIFF (KIND 5) that is left and is AT its START is KEPT by itself.");
        for (int many = 1; many <= 8; many++) {
            FogKept x = one(7, 5, 20, 0);
            for (int w = 1; w < many; w++) {
                x.walker(5, 20);
            }
            x.fog(1 << 7);
            due("of " + many + " all are KEPT", x.hours(1), (1 << many) - 1);
            due("WITH the last", x.of(many - 1, 5), many % 2 == 1 ? many - 1 : many - 2);
        }
        for (int kind = 0; kind < 6; kind++) {
            // In HOUR 7 a WIDOW and a BAILIFF stay; the others' START is where they come to.
            FogKept x = one(7, kind, 20, 0);
            x.set(0, 2, x.on(0, 1, 0));
            x.fog(1 << 7);
            due("KIND " + kind, x.hours(1), kind == 5 ? 1 : 0);
        }
        FogKept away = one(7, 5, 20, 0);
        away.set(0, 2, 21);
        away.fog(1 << 7);
        due("not AT its START", away.hours(1), 0);
        FogKept clear = one(7, 5, 20, 0);
        clear.fog(ALL_DAY & ~(1 << 7));
        due("not without FOG", clear.hours(1), 0);
        FogKept notLeft = one(7, 5, 20, 0);
        notLeft.walker(3, 20);
        notLeft.fog(1 << 7);
        notLeft.hours(1);
        due("not one that isn't left", notLeft.of(0, 5), 1);
        FogKept leftWalker = one(7, 3, 20, 0);
        leftWalker.walker(3, 20);
        leftWalker.walker(3, 20);
        leftWalker.walker(5, 21);
        leftWalker.fog(1 << 7);
        due("by a CELL of its own", leftWalker.hours(1), 11);
        FogKept taken = one(7, 5, 20, 0);
        taken.fog(ALL_DAY);
        taken.hours(1);
        taken.walker(3, taken.on(0, 1, 0));
        due("who is KEPT by itself is not FREE for another one", taken.hours(1), 1);
        says("HOUR is 1 more.");
        FogKept hour = new FogKept();
        for (int h = 1; h <= 60; h++) {
            hour.hours(1);
            due("HOUR", hour.now(0), h);
        }
    }

    // ---- the text

    private static final String[] KINDS = {"walker", "shepherd", "widow", "lost", "canon", "bailiff"};
    private static final String[] FIRSTS = {"walker", "shepherd", "widow", "lost", "canon", "bailiff", "fog", "clear", "village"};

    /** Words, numbers about every bound, the sign, and bytes beside those that begin a token. */
    private static List<String> tokens() {
        List<String> tokens = new ArrayList<>(Arrays.asList(FIRSTS));
        tokens.addAll(Arrays.asList("at", "heading", "hopes", "to", "a", "z", "walke", "walkers", "fogs", "fo", "att", "too", "hope", ";"));
        for (int n : new int[] {0, 1, 2, 3, 4, 5, 14, 15, 16, 22, 23, 24, 25, 34, 35, 36, 37, 99, 100, 256, 998, 999, 1000}) {
            tokens.add(Integer.toString(n));
        }
        tokens.addAll(Arrays.asList("00", "007", "4294967296", "4294967299", "18446744073709551616", "9".repeat(60)));
        for (int b : new int[] {0, 9, 10, 13, 31, 33, '/', ':', '<', '-', '+', ',', '.', '`', '{', 'A', 'F', 'Z', 127, 128, 160, 200, 255}) {
            tokens.add(String.valueOf((char) b));
        }
        return tokens;
    }

    private static boolean isNumber(String token, int least, int most) {
        return token.matches("[0-9]{1,9}") && Integer.parseInt(token) >= least && Integer.parseInt(token) <= most;
    }

    /**
     * Behind a text no TOKEN may stand but those words and the numbers from least to most; behind these
     * (and at the end, if it may not end) it goes on, so that no FAULT is where they stand.
     */
    private static void follows(String text, boolean mayEnd, int least, int most, String... words) {
        FogKept end = new FogKept();
        int ended = Edge.moorOf(end, text);
        due("'" + text + "'", mayEnd ? Math.min(ended, 0) : ended, mayEnd ? 0 : -1 - text.length());
        for (String token : tokens()) {
            String whole = text + " " + token;
            boolean may = Arrays.asList(words).contains(token) || isNumber(token, least, most);
            int answer = Edge.moorOf(new FogKept(), whole);
            if (may) {
                due("'" + whole + "' has no FAULT before its end", answer > 0 ? 0 : answer, answer > 0 ? 0 : -1 - whole.length());
            } else {
                due("'" + whole + "'", answer, -1 - text.length() - 1);
            }
        }
    }

    private static void grammar() {
        says("THE TEXT of a MOOR, from THE TAPE (bytes, at most 120).");
        due("of 120", Edge.moorOf(new FogKept(), " ".repeat(112) + "fog 0to9"), 1);
        due("the 121st", Edge.full().feed(' ', 1), Edge.FULL);
        says("TEXT: ITEM { ; ITEM }.");
        follows("", false, 1, 0, FIRSTS);
        follows("village 3;", false, 1, 0, FIRSTS);
        follows("village 3", true, 1, 0, ";");
        says("ITEM: the name of a KIND (walker shepherd widow lost canon bailiff), at, a NUMBER (a CELL), "
            + "perhaps heading and a NUMBER (0 to 3), perhaps hopes and a NUMBER (0 to 15): one more;");
        for (int kind = 0; kind < 6; kind++) {
            follows(KINDS[kind], false, 1, 0, "at");
            follows(KINDS[kind] + " at", false, 0, 35);
            follows(KINDS[kind] + " at 35", true, 1, 0, ";", "heading", "hopes");
            follows(KINDS[kind] + " at 0 heading", false, 0, 3);
            follows(KINDS[kind] + " at 0 heading 3", true, 1, 0, ";", "hopes");
            follows(KINDS[kind] + " at 0 hopes", false, 0, 15);
            follows(KINDS[kind] + " at 0 hopes 15", true, 1, 0, ";");
            follows(KINDS[kind] + " at 0 heading 0 hopes", false, 0, 15);
            follows(KINDS[kind] + " at 0 heading 0 hopes 0", true, 1, 0, ";");
            told(kind, " at 35 heading 3 hopes 15", 35, 3, 15);
            told(kind, " at 0 heading 0 hopes 0", 0, 0, 0);
            told(kind, " at 7", 7, 0, 0);
            told(kind, " at 7 heading 2", 7, 2, 0);
            told(kind, " at 7 hopes 2", 7, 0, 2);
        }
    }

    private static void told(int kind, String rest, int cell, int heading, int hope) {
        FogKept x = Edge.with(3, 20);
        due("'" + KINDS[kind] + rest + "'", Edge.moorOf(x, KINDS[kind] + rest), 1);
        int[] due = {kind, cell, cell, heading, hope, -1, -1};
        for (int what = 0; what < due.length; what++) {
            due("of(1, " + what + ")", x.of(1, what), due[what]);
        }
        due("WALKERS", x.count(0), 2);
    }

    private static void fogOfText(int before, String text, int fog) {
        FogKept x = new FogKept();
        x.fog(before);
        due("'" + text + "'", Edge.moorOf(x, text), 1);
        due("FOG by '" + text + "'", x.now(1), fog);
    }

    private static void fogsAndVillages() {
        says("fog or clear, a NUMBER (0 to 23), perhaps to and a NUMBER (0 to 23, not less): there is FOG in these hours of the day, or none;");
        for (String word : new String[] {"fog", "clear"}) {
            follows(word, false, 0, 23);
            follows(word + " 23", true, 1, 0, ";", "to");
            follows(word + " 0 to", false, 0, 23);
            follows(word + " 3 to", false, 3, 23);
            follows(word + " 23 to", false, 23, 23);
            follows(word + " 22 to 23", true, 1, 0, ";");
        }
        for (int from = 0; from < 24; from++) {
            fogOfText(1 << 5, "fog " + from, 1 << 5 | 1 << from);
            fogOfText(ALL_DAY, "clear " + from, ALL_DAY & ~(1 << from));
            for (int to = from; to < 24; to++) {
                int these = (1 << to + 1) - (1 << from);
                fogOfText(1 << 23, "fog " + from + " to " + to, 1 << 23 | these);
                fogOfText(ALL_DAY & ~(1 << 5), "clear " + from + " to " + to, ALL_DAY & ~(1 << 5) & ~these);
            }
        }
        says("village and a NUMBER (a CELL).");
        follows("village", false, 0, 35);
        follows("village 35", true, 1, 0, ";");
        for (int cell : new int[] {0, 1, 34, 35}) {
            FogKept x = new FogKept();
            due("village " + cell, Edge.moorOf(x, "village " + cell), 1);
            due("VILLAGE", x.now(5), cell);
        }
    }

    private static void textIs(String text, int answer) {
        due("'" + text + "'", Edge.moorOf(new FogKept(), text), answer);
    }

    private static void tokensOfText() {
        says("TOKENS, each as long as can be: WORDS (letters a to z), NUMBERS (digits, 999 at most), SIGN ; ;");
        textIs("fog1to2;clear3to4;village5;widow at6heading1hopes2", 4);
        textIs("walkerat 3", -1);
        textIs("lostz at 3", -1);
        textIs("losta at 3", -1);
        textIs("lost atz 3", -1 - 5);
        textIs("lost at 3z", -1 - 9);
        textIs("lost at 9", 1);
        textIs("lost at 09", 1);
        textIs("lost at 39", -1 - 8);
        textIs("lost at 30", 1);
        textIs("walker at 3heading3hopes3;lost at 3", 2);
        textIs("fog 1 2", -1 - 6);
        textIs("fog 12", 1);
        textIs("fog 023", 1);
        textIs("fog 240", -1 - 4);
        textIs("fog 2to 10", 1);
        textIs("fog 2to1 0", -1 - 7);
        textIs("fog 3 to999", -1 - 8);
        textIs("fog 3 to1000", -1 - 8);
        textIs("fog 3 to1000000000000000000000000000003", -1 - 8);
        textIs("fog 3 toa", -1 - 6);
        textIs("fog 3t o5", -1 - 5);
        textIs("f og 3", -1);
        textIs("fog 3;;fog 4", -1 - 6);
        textIs(";fog 3", -1);
        textIs("fog;3", -1 - 3);
        says("blanks may stand between.");
        textIs("  fog   3   to   4  ;  village  4  ", 2);
        textIs("fog 3 ; ", -1 - 8);
        textIs("fog 3\t", -1 - 5);
        textIs("fog\n3", -1 - 3);
        textIs("fog" + (char) 160 + "3", -1 - 3);
        says("FAULT: the place (from 0) of the first byte of the first TOKEN that can't stand there");
        textIs("at fog at", -1);
        textIs("fog 3 at at", -1 - 6);
        textIs("fog 99 at 99", -1 - 4);
        says("(a NUMBER that may not be, another WORD, a byte that begins no TOKEN, the name of a KIND for a 9th: its own)");
        textIs("village 0036", -1 - 8);
        textIs("village x36", -1 - 8);
        textIs("village -36", -1 - 8);
        textIs("fog 3;village 3?", -1 - 15);
        textIs("lost at 1;".repeat(8) + "lost at 1", -1 - 80);
        textIs("lost at 1;".repeat(7) + "lost at 1", 8);
        textIs("lost at 1;".repeat(8) + "losts at 1", -1 - 80);
        textIs("lost at 1;".repeat(8) + "fog 2; lost", -1 - 87);
        textIs("lost at 1;".repeat(8) + "fog 2;village 2", 10);
        ninth();
        says("or how many bytes there are if it ends too early.");
        for (String text : new String[] {"", " ", "   ", "fog", "fog ", "fog 3 to", "fog 3 to  ", "fog 3;", "fog 3; ", "village", "clear", "lost", "lost at",
            "lost at 3 heading", "lost at 3 hopes", "lost at 3 heading 3 hopes", "lost at 3 heading 3 hopes  ", " ".repeat(120)}) {
            textIs(text, -1 - text.length());
        }
    }

    private static void ninth() {
        for (String kind : KINDS) {
            FogKept x = Edge.full();
            x.wipe();
            due("a 9th, " + kind, Edge.moorOf(x, "village 1;fog 0; " + kind + " at 36"), -1 - 17);
            due("VILLAGE stays", x.now(5), 7);
            FogKept seven = Edge.with(0, 0, 0, 0, 0, 0, 0, 0, 0, 0, 0, 0, 0, 0);
            due("an 8th and a 9th, " + kind, Edge.moorOf(seven, "lost at 3;" + kind + " at 3"), -1 - 10);
            due("no 8th came", seven.count(0), 7);
            due("an 8th, " + kind, Edge.moorOf(seven, kind + " at 3"), 1);
            due("it came", seven.count(0), 8);
        }
    }

    private static void onAndGlad() {
        says("ON: n HOURS go on with all as it is; nothing changes.");
        for (int n : new int[] {0, 1, 60}) {
            FogKept went = Edge.some();
            if (n > 0) {
                went.hours(n);
            }
            Edge.changesNothing("ON " + n, Edge::some, went.of(0, 1), x -> x.on(0, n, 0));
            for (int w = 0; w < 4; w++) {
                due("CELL ON " + n, Edge.some().on(w, n, 0), went.of(w, 1));
                due("WITH, ON " + n, Edge.some().on(w, n, 1), went.of(w, 5));
                due("AS, ON " + n, Edge.some().on(w, n, 2), went.of(w, 6));
            }
        }
        says("GLAD: one that is KEPT WITH another one AS what is its own HOPE.");
        for (int hope : new int[] {0, 15}) {
            FogKept x = Edge.with(3, 8, 3, 8);
            x.set(0, 4, hope);
            x.set(1, 4, hope);
            due("FREE", x.now(4), 0);
            x.keep(0, 1);
            due("both", x.now(4), 3);
            x.set(0, 4, 7);
            due("one", x.now(4), 2);
            x.set(1, 4, 7);
            due("none, though their HOPES are one", x.now(4), 0);
        }
        FogKept self = one(7, 5, 20, 0);
        self.fog(1 << 7);
        self.hours(1);
        due("not WITH itself", self.now(3) * 10 + self.now(4), 10);
    }

    private static void sheets() {
        says("SHEETS 0 to 3 are rows of at most 40 numbers of 8, 16 or 64 bits, or MISSING (at first).");
        for (int s = 0; s < 4; s++) {
            FogKept x = new FogKept();
            due("MISSING at first", x.write(s, 0, 0), MISSING);
            due("40", x.sheet(s, 8, 40), 40);
            due("41", x.sheet(s, 8, 41), BEYOND);
            due("the 40th", x.write(s, 39, 0), 0);
            due("the 41st", x.write(s, 40, 0), BEYOND);
        }
        due("sheet -1", new FogKept().sheet(-1, 8, 0), BEYOND);
        due("sheet 4", new FogKept().sheet(4, 8, 0), BEYOND);
    }

    public static void main(String[] args) {
        findings();
        cells();
        fogAndVillage();
        kinds();
        stepsAndTurns();
        going();
        keeping();
        lifting();
        colliding();
        grammar();
        fogsAndVillages();
        tokensOfText();
        onAndGlad();
        sheets();
        Edge.end(Edge.TERMS, Edge.TERMS);
    }
}
