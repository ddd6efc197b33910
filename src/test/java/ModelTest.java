import java.lang.reflect.Method;
import java.math.BigInteger;
import java.util.ArrayList;
import java.util.Arrays;
import java.util.Comparator;
import java.util.HashMap;
import java.util.List;
import java.util.Map;
import java.util.Random;
import java.util.TreeMap;
import java.util.TreeSet;
import java.util.function.Consumer;
import java.util.function.Predicate;
import java.util.function.ToIntFunction;
import java.util.regex.Matcher;
import java.util.regex.Pattern;

/**
 * Runs of random calls (the seeds are fixed) on the class and on a second writing of the document,
 * which keeps to its words and not to speed. Every answer is compared.
 */
public final class ModelTest {
    private static final int RUNS = 700;
    private static final int CALLS = 512;

    // ---- the document, once more

    enum Kind {
        WALKER(null), SHEPHERD(WALKER), WIDOW(WALKER), LOST(WALKER), CANON(SHEPHERD), BAILIFF(WIDOW);

        final Kind above;

        Kind(Kind above) {
            this.above = above;
        }

        int steps(int h) {
            switch (this) {
                case WALKER: return 1;
                case WIDOW: return h % 2 == 0 ? above.steps(h) : 0;
                case LOST: return 0;
                case CANON: return above.steps(h) + 1;
                case BAILIFF: return above.steps(h) + (h % 3 == 0 ? 1 : 0);
                default: return above.steps(h);
            }
        }

        int turns(int h) {
            switch (this) {
                case WALKER: return 0;
                case SHEPHERD: return h % 3 == 0 ? 1 : 0;
                case LOST: return 1;
                case BAILIFF: return above.turns(h) + (h % 4 == 1 ? 2 : 0);
                default: return above.turns(h);
            }
        }
    }

    static final class One {
        Kind kind;
        int row;
        int column;
        int start;
        int heading;
        int hope;
        One with;
        int as = -1;

        int cell() {
            return row * 6 + column;
        }

        void place(int cell) {
            row = cell / 6;
            column = cell % 6;
        }

        boolean isGlad() {
            return with != null && with != this && as == hope;
        }
    }

    static final class Land {
        int hour = 0;
        TreeSet<Integer> fog = new TreeSet<>();
        int village = 35;
        List<One> all = new ArrayList<>();

        Land twin() {
            Land t = new Land();
            t.hour = hour;
            t.fog = new TreeSet<>(fog);
            t.village = village;
            for (One o : all) {
                One n = new One();
                n.kind = o.kind;
                n.row = o.row;
                n.column = o.column;
                n.start = o.start;
                n.heading = o.heading;
                n.hope = o.hope;
                n.as = o.as;
                t.all.add(n);
            }
            for (int i = 0; i < all.size(); i++) {
                One with = all.get(i).with;
                t.all.get(i).with = with == null ? null : t.all.get(all.indexOf(with));
            }
            return t;
        }

        One come(Kind kind, int cell) {
            One o = new One();
            o.kind = kind;
            o.place(cell);
            o.start = cell;
            all.add(o);
            return o;
        }

        void keep(One a, One b) {
            a.with = b;
            b.with = a;
            a.as = b.hope;
            b.as = a.hope;
        }

        void free(One o) {
            One with = o.with;
            o.with = null;
            o.as = -1;
            if (with != null && with != o) {
                free(with);
            }
        }

        boolean foggy() {
            return fog.contains(hour % 24);
        }

        void step(One o) {
            int row = o.row + new int[] {-1, 0, 1, 0}[o.heading];
            int column = o.column + new int[] {0, 1, 0, -1}[o.heading];
            if (row < 0 || row > 5 || column < 0 || column > 5) {
                o.heading = (o.heading + 1) % 4;
            } else {
                o.row = row;
                o.column = column;
            }
        }

        void go(One o) {
            for (int i = 0; i < o.kind.turns(hour); i++) {
                o.heading = (o.heading + 1) % 4;
            }
            for (int i = 0; i < o.kind.steps(hour); i++) {
                step(o);
            }
            if (o.with != null) {
                o.with.place(o.cell());
            }
        }

        void anHour() {
            if (!foggy()) {
                all.stream().filter(o -> o.with != null && o.cell() != village).forEach(this::free);
            }
            for (One o : all) {
                if (o.with == null || all.indexOf(o.with) >= all.indexOf(o)) {
                    go(o);
                }
            }
            if (foggy()) {
                TreeMap<Integer, List<One>> byCell = new TreeMap<>();
                all.stream().filter(o -> o.with == null)
                    .forEach(o -> byCell.computeIfAbsent(o.cell(), c -> new ArrayList<>()).add(o));
                for (List<One> there : byCell.values()) {
                    for (int i = 0; i + 1 < there.size(); i += 2) {
                        keep(there.get(i), there.get(i + 1));
                    }
                    One left = there.size() % 2 == 1 ? there.get(there.size() - 1) : null;
                    if (left != null && left.kind == Kind.BAILIFF && left.cell() == left.start) {
                        keep(left, left);
                    }
                }
            }
            hour++;
        }

        Land on(int n) {
            Land t = twin();
            for (int i = 0; i < n; i++) {
                t.anHour();
            }
            return t;
        }

        int set(Predicate<One> of) {
            int bits = 0;
            for (int i = 0; i < all.size(); i++) {
                bits += of.test(all.get(i)) ? (int) Math.pow(2, i) : 0;
            }
            return bits;
        }

        int kept() {
            return set(o -> o.with != null);
        }

        int glad() {
            return set(One::isGlad);
        }

        int fogBits() {
            return fog.stream().mapToInt(h -> (int) Math.pow(2, h)).sum();
        }

        void fogBits(int bits) {
            fog.clear();
            for (int h = 0; h < 24; h++) {
                if (BigInteger.valueOf(bits).testBit(h)) {
                    fog.add(h);
                }
            }
        }

        /** The first of 0 to most hours on in which it is so, or -1. */
        int first(int most, Predicate<Land> so) {
            Land t = twin();
            for (int h = 0; h <= most; h++) {
                if (so.test(t)) {
                    return h;
                }
                t.anHour();
            }
            return -1;
        }
    }

    /** The text by its tokens, one state after the other. */
    static final class Telling {
        final Land land;
        String state = "item";
        One one;
        boolean fog;
        int from;
        int items = 0;

        Telling(Land land) {
            this.land = land;
        }

        /** The number of items, or -1 less the fault's place. */
        int tell(String text) {
            Matcher m = Pattern.compile("[a-z]+|[0-9]+|[^ ]", Pattern.DOTALL).matcher(text);
            while (m.find()) {
                if (!token(m.group())) {
                    return -1 - m.start();
                }
            }
            boolean whole = Arrays.asList("cell.", "heading.", "done", "hour.").contains(state);
            return whole ? items : -1 - text.length();
        }

        boolean number(String token, int least, int most) {
            if (!token.matches("[0-9]+")) {
                return false;
            }
            BigInteger v = new BigInteger(token);
            from = state.equals("to") ? from : v.min(BigInteger.valueOf(999)).intValue();
            return v.compareTo(BigInteger.valueOf(least)) >= 0 && v.compareTo(BigInteger.valueOf(most)) <= 0;
        }

        void day(int first, int last) {
            for (int h = first; h <= last; h++) {
                if (fog) {
                    land.fog.add(h);
                } else {
                    land.fog.remove(h);
                }
            }
        }

        boolean next(boolean may, String then) {
            if (may) {
                state = then;
            }
            return may;
        }

        boolean token(String t) {
            boolean between = Arrays.asList("cell.", "heading.", "done", "hour.").contains(state);
            if (between && t.equals(";")) {
                return next(true, "item");
            }
            switch (state) {
                case "item":
                    return item(t);
                case "at":
                    return next(t.equals("at"), "cell");
                case "cell":
                    if (number(t, 0, 35)) {
                        one.place(Integer.parseInt(t));
                        one.start = Integer.parseInt(t);
                        return next(true, "cell.");
                    }
                    return false;
                case "cell.":
                    return next(t.equals("heading"), "heading") || next(t.equals("hopes"), "hopes");
                case "heading":
                    if (number(t, 0, 3)) {
                        one.heading = Integer.parseInt(t);
                        return next(true, "heading.");
                    }
                    return false;
                case "heading.":
                    return next(t.equals("hopes"), "hopes");
                case "hopes":
                    if (number(t, 0, 15)) {
                        one.hope = Integer.parseInt(t);
                        return next(true, "done");
                    }
                    return false;
                case "hour":
                    if (number(t, 0, 23)) {
                        day(from, from);
                        return next(true, "hour.");
                    }
                    return false;
                case "hour.":
                    return next(t.equals("to"), "to");
                case "to":
                    if (number(t, from, 23)) {
                        day(from, Integer.parseInt(t));
                        return next(true, "done");
                    }
                    return false;
                case "village":
                    if (number(t, 0, 35)) {
                        land.village = from;
                        return next(true, "done");
                    }
                    return false;
                default:
                    return false;
            }
        }

        boolean item(String t) {
            items++;
            for (Kind k : Kind.values()) {
                if (t.equals(k.name().toLowerCase())) {
                    if (land.all.size() == 8) {
                        return false;
                    }
                    one = land.come(k, 0);
                    return next(true, "at");
                }
            }
            fog = t.equals("fog");
            return next(fog || t.equals("clear"), "hour") || next(t.equals("village"), "village");
        }
    }

    static final class Paper {
        final int bits;
        final BigInteger[] numbers;

        Paper(int bits, int n) {
            this.bits = bits;
            numbers = new BigInteger[n];
            Arrays.fill(numbers, BigInteger.ZERO);
        }

        void put(int i, long v) {
            BigInteger whole = BigInteger.ONE.shiftLeft(bits);
            BigInteger low = BigInteger.valueOf(v).mod(whole);
            numbers[i] = low.testBit(bits - 1) ? low.subtract(whole) : low;
        }
    }

    /** Thrown (and told) where the document wants a finding. */
    static final class Finding extends RuntimeException {
        private static final long serialVersionUID = 1L;
        final int number;

        Finding(int number) {
            super(null, null, false, false);
            this.number = number;
        }
    }

    /** The face of the document over the model. */
    static final class Model {
        Land land = new Land();
        Land latest = null;
        String tape = "";
        final Paper[] papers = new Paper[4];
        final int[] findings = new int[7];

        static void ask(boolean fine, int finding) {
            if (!fine) {
                throw new Finding(finding);
            }
        }

        static void within(int v, int least, int most) {
            ask(v >= least && v <= most, 0);
        }

        One one(int w) {
            within(w, 0, land.all.size() - 1);
            return land.all.get(w);
        }

        void two(int w, int o) {
            one(w);
            one(o);
            ask(w != o, 0);
        }

        int number(One o) {
            return o == null ? -1 : land.all.indexOf(o);
        }

        static int orNone(int v) {
            ask(v >= 0, 3);
            return v;
        }

        long fog(int hours) {
            within(hours, 0, 16777215);
            int was = land.fogBits();
            land.fogBits(hours);
            return was;
        }

        long village(int cell) {
            within(cell, 0, 35);
            int was = land.village;
            land.village = cell;
            return was;
        }

        long at(int cell) {
            within(cell, 0, 35);
            return land.set(o -> o.cell() == cell);
        }

        long walker(int kind, int cell) {
            within(kind, 0, 5);
            within(cell, 0, 35);
            ask(land.all.size() < 8, 1);
            return number(land.come(Kind.values()[kind], cell));
        }

        long of(int w, int what) {
            One o = one(w);
            within(what, 0, 8);
            return new int[] {o.kind.ordinal(), o.cell(), o.start, o.heading, o.hope, number(o.with), o.as,
                o.kind.steps(land.hour), o.kind.turns(land.hour)}[what];
        }

        long set(int w, int what, int v) {
            One o = one(w);
            within(what, 1, 4);
            within(v, 0, new int[] {0, 35, 35, 3, 15}[what]);
            long was = of(w, what);
            if (what == 1) {
                o.place(v);
                if (o.with != null) {
                    o.with.place(v);
                }
            }
            o.start = what == 2 ? v : o.start;
            o.heading = what == 3 ? v : o.heading;
            o.hope = what == 4 ? v : o.hope;
            return was;
        }

        long turn(int w, int kind) {
            One o = one(w);
            within(kind, 0, 5);
            int was = o.kind.ordinal();
            o.kind = Kind.values()[kind];
            return was;
        }

        long as(int w, int kind) {
            One o = one(w);
            within(kind, 0, 5);
            Kind wanted = Kind.values()[kind];
            Kind k = o.kind;
            while (k != null && k != wanted) {
                k = k.above;
            }
            ask(k != null, 2);
            return o.hope;
        }

        long free(int w) {
            One o = one(w);
            ask(o.with != null, 4);
            int was = number(o.with);
            land.free(o);
            return was;
        }

        long keep(int w, int other) {
            two(w, other);
            One a = one(w);
            One b = one(other);
            ask(a.with == null && b.with == null && a.cell() == b.cell(), 4);
            land.keep(a, b);
            return Integer.bitCount(land.kept());
        }

        long hours(int n) {
            within(n, 1, 60);
            ask(land.hour + n <= 99999, 4);
            land = land.on(n);
            return land.kept();
        }

        long now(int what) {
            within(what, 0, 5);
            return new int[] {land.hour, land.fogBits(), land.foggy() ? 1 : 0, land.kept(), land.glad(), land.village}[what];
        }

        long on(int w, int n, int what) {
            one(w);
            within(n, 0, 60);
            within(what, 0, 2);
            Land t = land.on(n);
            One o = t.all.get(w);
            return new int[] {o.cell(), o.with == null ? -1 : t.all.indexOf(o.with), o.as}[what];
        }

        static Predicate<Land> together(int w, int other) {
            return t -> t.all.get(w).with == t.all.get(other);
        }

        long meet(int w, int other) {
            two(w, other);
            return orNone(land.first(100, together(w, other)));
        }

        long when(int w) {
            one(w);
            return orNone(land.first(100, t -> t.all.get(w).with != null));
        }

        long till(int w) {
            one(w);
            return orNone(land.first(100, t -> t.all.get(w).with == null));
        }

        long glad(int w) {
            one(w);
            return orNone(land.first(100, t -> t.all.get(w).isGlad()));
        }

        /** Of 0 to most the one of the least value that is not below 0; the first of several. */
        int least(int most, ToIntFunction<Integer> value) {
            int chosen = -1;
            int best = Integer.MAX_VALUE;
            for (int c = 0; c <= most; c++) {
                int v = value.applyAsInt(c);
                if (v >= 0 && v < best) {
                    best = v;
                    chosen = c;
                }
            }
            return orNone(chosen);
        }

        Land with(Consumer<Land> change) {
            Land t = land.twin();
            change.accept(t);
            return t;
        }

        long heading(int w, int other) {
            two(w, other);
            return least(3, d -> with(t -> t.all.get(w).heading = d).first(100, together(w, other)));
        }

        long begin(int w, int other) {
            two(w, other);
            return least(35, c -> with(t -> {
                t.free(t.all.get(w));
                t.all.get(w).place(c);
            }).first(30, together(w, other)));
        }

        long kind(int w) {
            one(w);
            return least(5, k -> with(t -> t.all.get(w).kind = Kind.values()[k]).first(100, t -> t.all.get(w).with != null));
        }

        long hour(int w, int other) {
            two(w, other);
            return least(23, h -> with(t -> t.fogBits(1 << h)).first(60, together(w, other)));
        }

        long hope(int w, int n) {
            one(w);
            within(n, 0, 60);
            return least(15, v -> 8 - Integer.bitCount(with(t -> t.all.get(w).hope = v).on(n).glad()));
        }

        long more(int n) {
            within(n, 0, 60);
            return least(23, h -> 8 - Integer.bitCount(with(t -> t.fog.add(h)).on(n).kept()));
        }

        long best(int n) {
            within(n, 0, 30);
            return least(35, c -> 8 - Integer.bitCount(with(t -> t.village = c).on(n).kept()));
        }

        long feed(int bytes, int n) {
            within(n, 1, 4);
            ask(tape.length() + n <= 120, 1);
            for (int i = n - 1; i >= 0; i--) {
                tape += (char) (Integer.toUnsignedLong(bytes) / (long) Math.pow(256, i) % 256);
            }
            return tape.length();
        }

        long wipe() {
            int was = tape.length();
            tape = "";
            return was;
        }

        long moor() {
            Land t = land.twin();
            int answer = new Telling(t).tell(tape);
            tape = "";
            if (answer > 0) {
                land = t;
            }
            return answer;
        }

        Paper paper(int s) {
            within(s, 0, 3);
            ask(papers[s] != null, 5);
            return papers[s];
        }

        long sheet(int s, int bits, int n) {
            within(s, 0, 3);
            ask(Arrays.asList(0, 8, 16, 64).contains(bits), 0);
            ask(n >= 0, 6);
            within(n, 0, 40);
            papers[s] = bits == 0 ? null : new Paper(bits, n);
            return bits == 0 ? 0 : n;
        }

        long write(int s, int i, long v) {
            Paper p = paper(s);
            within(i, 0, p.numbers.length - 1);
            long was = p.numbers[i].longValueExact();
            p.put(i, v);
            return was;
        }

        long copy(int s, int from, int t, int to, int n) {
            within(s, 0, 3);
            within(t, 0, 3);
            Paper a = paper(s);
            Paper b = paper(t);
            ask(a.bits == b.bits, 2);
            ask(from >= 0 && to >= 0 && n >= 0, 0);
            ask((long) from + n <= a.numbers.length && (long) to + n <= b.numbers.length, 0);
            BigInteger[] were = a.numbers.clone();
            for (int i = 0; i < n; i++) {
                b.numbers[to + i] = were[from + i];
            }
            return n;
        }

        long lays(int s) {
            Paper p = paper(s);
            int came = 0;
            for (int i = 0; i < p.numbers.length; i++) {
                BigInteger v = p.numbers[i];
                if (i < land.all.size() && v.signum() >= 0 && v.compareTo(BigInteger.valueOf(15)) <= 0) {
                    land.all.get(i).hope = v.intValueExact();
                    came++;
                }
            }
            return came;
        }

        long book(int s, int w) {
            Paper p = paper(s);
            one(w);
            for (int i = 0; i < p.numbers.length; i++) {
                p.put(i, land.on(i).all.get(w).cell());
            }
            return p.numbers.length;
        }

        long read(int s, int w) {
            Paper p = paper(s);
            one(w);
            int pairs = 0;
            for (Kind k : Kind.values()) {
                for (int d = 0; d < 4; d++) {
                    int heading = d;
                    Land t = with(l -> {
                        l.all.get(w).kind = k;
                        l.all.get(w).heading = heading;
                    });
                    boolean so = true;
                    for (BigInteger v : p.numbers) {
                        so &= v.equals(BigInteger.valueOf(t.all.get(w).cell()));
                        t.anHour();
                    }
                    pairs += so ? 1 : 0;
                }
            }
            return pairs;
        }

        long image() {
            latest = land.twin();
            return 1;
        }

        long undo() {
            ask(latest != null, 3);
            land = latest.twin();
            return land.all.size();
        }

        long tear() {
            int was = latest == null ? 0 : 1;
            latest = null;
            return was;
        }

        long count(int what) {
            within(what, 0, 3);
            return new int[] {land.all.size(), tape.length(), Integer.bitCount(land.kept()), land.fog.size()}[what];
        }

        long status(int which) {
            within(which, -1, 6);
            return which < 0 ? Arrays.stream(findings).sum() : findings[which];
        }
    }

    // ---- the runs

    /** What each argument of a call is, by a sign: see argument(). */
    private static final Map<String, String> ROLES = new HashMap<>();
    /** The calls, each as often as it shall come. */
    private static final List<String> MIX = new ArrayList<>();

    private static void role(String name, String roles, int often) {
        ROLES.put(name, roles);
        for (int i = 0; i < often; i++) {
            MIX.add(name);
        }
    }

    private static void roles() {
        role("fog", "f", 6);
        role("village", "c", 4);
        role("at", "c", 3);
        role("walker", "kc", 8);
        role("of", "w9", 12);
        role("set", "wsv", 16);
        role("turn", "wk", 5);
        role("as", "wk", 3);
        role("free", "w", 3);
        role("keep", "ww", 6);
        role("hours", "n", 10);
        role("now", "6", 6);
        role("on", "wn3", 6);
        role("meet", "ww", 4);
        role("when", "w", 3);
        role("till", "w", 4);
        role("glad", "w", 3);
        role("heading", "ww", 3);
        role("begin", "ww", 2);
        role("kind", "w", 3);
        role("hour", "ww", 2);
        role("hope", "wn", 2);
        role("more", "n", 2);
        role("best", "m", 2);
        role("feed", "b5", 2);
        role("wipe", "", 1);
        role("moor", "", 1);
        role("sheet", "tzl", 4);
        role("write", "tlh", 8);
        role("copy", "tltll", 3);
        role("lays", "t", 2);
        role("book", "tw", 3);
        role("read", "tw", 3);
        role("image", "", 2);
        role("undo", "", 2);
        role("tear", "", 1);
        role("count", "4", 3);
        role("status", "8", 3);
    }

    private static int oddNumber(Random r) {
        int[] odd = {Integer.MIN_VALUE, Integer.MAX_VALUE, -1, -2, 4, 6, 7, 8, 9, 16, 24, 31, 36, 40, 41, 60, 61, 16777216};
        return odd[r.nextInt(odd.length)];
    }

    private static long argument(char role, Random r, Run run) {
        if (r.nextInt(40) == 0) {
            return oddNumber(r);
        }
        switch (role) {
            case 'f': return r.nextInt(4) == 0 ? run.fogs[r.nextInt(4)] : r.nextInt(16777216) & run.fogs[r.nextInt(4)];
            case 'c': return r.nextInt(5) == 0 ? r.nextInt(36) : run.cells[r.nextInt(run.cells.length)];
            case 'k': return r.nextInt(6);
            case 'w': return r.nextInt(Math.max(1, run.model.land.all.size()));
            case 's': return 1 + r.nextInt(4);
            case 'v': return r.nextInt(3) == 0 ? run.cells[r.nextInt(run.cells.length)] : r.nextInt(4);
            case 'n': return r.nextInt(3) == 0 ? r.nextInt(61) : 1 + r.nextInt(4);
            case 'm': return r.nextInt(31);
            case 'b': return r.nextInt();
            case 't': return r.nextInt(4);
            case 'z': return new int[] {8, 8, 16, 16, 64, 64, 0}[r.nextInt(7)];
            case 'l': return r.nextInt(r.nextInt(4) == 0 ? 41 : 7);
            case 'h': return r.nextInt(4) == 0 ? r.nextLong() : r.nextInt(4) == 0 ? r.nextInt(70000) - 35000 : r.nextInt(36);
            default: return r.nextInt(role - '0' + 1) - (r.nextInt(20) == 0 ? 1 : 0);
        }
    }

    private static final class Run {
        final int number;
        final FogKept real = new FogKept();
        final Model model = new Model();
        final int[] cells;
        final int[] fogs = new int[4];
        final StringBuilder story = new StringBuilder();
        int calls = 0;
        int wrong = 0;

        Run(int number, Random r) {
            this.number = number;
            cells = r.ints(1 + r.nextInt(5), 0, 36).toArray();
            fogs[0] = 16777215;
            fogs[1] = 1 << r.nextInt(24);
            fogs[2] = r.nextInt(16777216) & r.nextInt(16777216);
            fogs[3] = r.nextInt(16777216) | r.nextInt(16777216);
        }

        void call(String name, long... arguments) {
            calls++;
            long got = answer(real, REAL.get(name), arguments);
            long want;
            try {
                want = answer(model, MODEL.get(name), arguments);
            } catch (Finding f) {
                model.findings[f.number]++;
                want = -1000000001L - f.number;
            }
            story.append(name).append(Arrays.toString(arguments)).append(" = ").append(want).append('\n');
            SEEN.merge(name + (want < -1000000000L ? " finding" : want == -1 ? " -1" : want == 0 ? " 0" : " more"), 1, Integer::sum);
            TOP.merge(name, want, Math::max);
            if (got != want) {
                wrong++;
                System.out.println("run " + number + ": " + name + Arrays.toString(arguments) + " answered " + got
                    + ", due is " + want + "; the run:\n" + story);
            }
        }
    }

    private static final Map<String, Method> REAL = new HashMap<>();
    private static final Map<String, Method> MODEL = new HashMap<>();
    private static final Map<String, Integer> SEEN = new TreeMap<>();
    private static final Map<String, Long> TOP = new TreeMap<>();

    private static long answer(Object target, Method method, long[] arguments) {
        Object[] given = new Object[arguments.length];
        for (int i = 0; i < given.length; i++) {
            if (method.getParameterTypes()[i] == long.class) {
                given[i] = arguments[i];
            } else {
                given[i] = (int) arguments[i];
            }
        }
        try {
            return ((Number) method.invoke(target, given)).longValue();
        } catch (java.lang.reflect.InvocationTargetException e) {
            if (e.getCause() instanceof Finding) {
                throw (Finding) e.getCause();
            }
            throw new IllegalStateException(method + Arrays.toString(arguments), e.getCause());
        } catch (IllegalAccessException e) {
            throw new IllegalStateException(e);
        }
    }

    private static String item(Random r) {
        String[] kinds = {"walker", "shepherd", "widow", "lost", "canon", "bailiff"};
        switch (r.nextInt(4)) {
            case 0:
                return (r.nextBoolean() ? "fog " : "clear ") + r.nextInt(24) + (r.nextBoolean() ? " to " + r.nextInt(25) : "");
            case 1:
                return "village " + r.nextInt(37);
            default:
                return kinds[r.nextInt(6)] + " at " + r.nextInt(36) + (r.nextInt(3) == 0 ? " heading " + r.nextInt(4) : "")
                    + (r.nextInt(3) == 0 ? " hopes " + r.nextInt(16) : "");
        }
    }

    private static String text(Random r) {
        StringBuilder b = new StringBuilder(item(r));
        for (int i = r.nextInt(6); i > 0; i--) {
            b.append(r.nextBoolean() ? ";" : " ; ").append(item(r));
        }
        if (r.nextInt(3) == 0) {
            int place = r.nextInt(b.length());
            String[] put = {"", "x", " ", ";", "0", "9", "at", "to ", "A", "\t", "\u00ff", "000", " hopes "};
            b.replace(place, Math.min(b.length(), place + r.nextInt(3)), put[r.nextInt(put.length)]);
        }
        b.setLength(r.nextInt(4) == 0 ? r.nextInt(b.length() + 1) : b.length());
        return b.length() > 120 ? b.substring(0, 120) : b.toString();
    }

    private static void tell(Run run, Random r) {
        String text = text(r);
        run.call("wipe");
        for (int i = 0; i < text.length(); i += 4) {
            int n = Math.min(4, text.length() - i);
            int bytes = r.nextInt();
            for (int j = 0; j < n; j++) {
                bytes = bytes << 8 | text.charAt(i + j);
            }
            run.call("feed", bytes, n);
        }
        run.call("moor");
    }

    /** What is read is mostly a book of the same or another walker, so that something is found. */
    private static void bookAndRead(Run run, Random r) {
        int s = r.nextInt(4);
        run.call("sheet", s, new int[] {8, 16, 64}[r.nextInt(3)], r.nextInt(r.nextInt(3) == 0 ? 41 : 6));
        run.call("book", s, argument('w', r, run));
        run.call("read", s, argument('w', r, run));
    }

    private static int run(int number) {
        Random r = new Random(number);
        Run run = new Run(number, r);
        while (run.calls < CALLS - 40 && run.wrong == 0) {
            int chance = r.nextInt(60);
            if (chance == 0) {
                tell(run, r);
            } else if (chance == 1) {
                bookAndRead(run, r);
            } else {
                String name = MIX.get(r.nextInt(MIX.size()));
                long[] arguments = ROLES.get(name).chars().mapToLong(c -> argument((char) c, r, run)).toArray();
                run.call(name, arguments);
            }
        }
        return run.wrong;
    }

    public static void main(String[] args) {
        roles();
        for (Method m : FogKept.class.getDeclaredMethods()) {
            if (java.lang.reflect.Modifier.isPublic(m.getModifiers())) {
                REAL.put(m.getName(), m);
            }
        }
        for (Method m : Model.class.getDeclaredMethods()) {
            MODEL.put(m.getName(), m);
        }
        if (!REAL.keySet().equals(ROLES.keySet())) {
            System.out.println("the calls of the class are not those of the runs: " + REAL.keySet());
            System.exit(1);
        }
        int wrong = 0;
        for (int number = 1; number <= RUNS && wrong == 0; number++) {
            wrong += run(number);
        }
        if (args.length > 0) {
            SEEN.entrySet().stream().sorted(Comparator.comparing(Map.Entry::getKey)).forEach(System.out::println);
            System.out.println(TOP);
        }
        System.out.println(RUNS + " runs against the model, " + wrong + " wrong");
        if (wrong != 0) {
            System.exit(1);
        }
    }
}
