import java.nio.charset.StandardCharsets;
import java.nio.file.Files;
import java.nio.file.Path;
import java.util.ArrayList;
import java.util.BitSet;
import java.util.List;
import java.util.Map;
import java.util.TreeMap;
import java.util.function.Supplier;
import java.util.regex.Matcher;
import java.util.regex.Pattern;

/**
 * What the tests of boundary cases share: the document's sentences, moors to begin with, all that
 * can be seen of an object, and what is due of a refused call.
 */
final class Edge {
    static final int BEYOND = -1000000001;
    static final int FULL = -1000000002;
    static final int KIND = -1000000003;
    static final int NONE = -1000000004;
    static final int STATE = -1000000005;
    static final int MISSING = -1000000006;
    static final int SIZE = -1000000007;
    static final int ALL_DAY = 16777215;
    static final int LEAST = Integer.MIN_VALUE;
    static final int MOST = Integer.MAX_VALUE;
    /** Where the sentences of "Terms" stand among those of the promises. */
    static final int TERMS = 0;

    private static final Map<Integer, String> SECTIONS = new TreeMap<>();
    private static final Map<Integer, BitSet> QUOTED = new TreeMap<>();
    private static int section = 0;
    private static String sentence = "";
    private static int asked = 0;
    private static int wrong = 0;

    interface Call {
        long on(FogKept x);
    }

    interface CallWith {
        long on(FogKept x, int argument);
    }

    private Edge() {
    }

    // ---- the document's sentences

    private static void readDocument() {
        String doc;
        try {
            doc = Files.readString(Path.of("../shared/DOC.md"), StandardCharsets.UTF_8);
        } catch (java.io.IOException e) {
            throw new IllegalStateException("../shared/DOC.md can't be read", e);
        }
        int terms = doc.indexOf("## Terms");
        String telling = doc.substring(terms + 8, doc.indexOf("Ahead of the calls", terms));
        SECTIONS.put(TERMS, telling.replaceAll("```(text)?", "").replaceAll("(?m)^\\d\\. ", ""));
        Matcher m = Pattern.compile("## Promise (\\d+): [^\n]*\n\n`[^`]*`: ([^\n]*)").matcher(doc);
        while (m.find()) {
            SECTIONS.put(Integer.parseInt(m.group(1)), m.group(2));
        }
    }

    /** The checks that follow are of this sentence, which must stand so in the document. */
    static void says(int where, String quote) {
        if (SECTIONS.isEmpty()) {
            readDocument();
        }
        section = where;
        sentence = quote;
        String text = SECTIONS.getOrDefault(where, "");
        int from = text.indexOf(quote);
        if (from < 0) {
            tellWrong("the document does not say so");
        }
        while (from >= 0) {
            QUOTED.computeIfAbsent(where, w -> new BitSet()).set(from, from + quote.length());
            from = text.indexOf(quote, from + 1);
        }
    }

    /** Fails for each letter and number of a section that no check has quoted. */
    private static void askForSilence(int where) {
        String text = SECTIONS.getOrDefault(where, "");
        BitSet quoted = QUOTED.getOrDefault(where, new BitSet());
        StringBuilder left = new StringBuilder();
        for (int i = 0; i < text.length(); i++) {
            left.append(quoted.get(i) ? '_' : text.charAt(i));
        }
        section = where;
        sentence = left.toString().replaceAll("_+", " .. ").trim();
        if (Pattern.compile("[A-Za-z0-9]").matcher(sentence.replace("..", "")).find()) {
            tellWrong("no test is of this");
        }
    }

    static void end(int firstSection, int lastSection) {
        for (int where = firstSection; where <= lastSection; where++) {
            askForSilence(where);
        }
        System.out.println(asked + " answers asked, " + wrong + " not as due");
        if (wrong != 0) {
            System.exit(1);
        }
    }

    // ---- checks

    private static void tellWrong(String what) {
        wrong++;
        System.out.println((section == TERMS ? "Terms" : "promise " + section) + ", '" + sentence + "': " + what);
    }

    static void due(String call, long got, long want) {
        asked++;
        if (got != want) {
            tellWrong(call + " answered " + got + ", due is " + want);
        }
    }

    /** It answers the finding, status() counts it, and nothing else has changed. */
    static void refused(String call, Supplier<FogKept> made, int finding, Call c) {
        FogKept x = made.get();
        FogKept untouched = made.get();
        due(call, c.on(x), finding);
        for (int which = -1; which < 7; which++) {
            int more = which == -1 || which == BEYOND - finding ? 1 : 0;
            due("status(" + which + ") behind " + call, x.status(which), untouched.status(which) + more);
        }
        same(call, x, untouched);
    }

    /** It answers that, status() counts nothing, and nothing has changed. */
    static void changesNothing(String call, Supplier<FogKept> made, long want, Call c) {
        FogKept x = made.get();
        FogKept untouched = made.get();
        due(call, c.on(x), want);
        for (int which = -1; which < 7; which++) {
            due("status(" + which + ") behind " + call, x.status(which), untouched.status(which));
        }
        same(call, x, untouched);
    }

    /** Uses both objects up: of the tape and of the image one only knows by what they turn into. */
    static void same(String call, FogKept x, FogKept untouched) {
        List<Long> is = picture(x);
        List<Long> was = picture(untouched);
        asked++;
        if (!is.equals(was)) {
            tellWrong("behind " + call + " it is\n" + is + "\nand not, as it was,\n" + was);
        }
    }

    /** As same, but of what section 1 tells alone, and of THE TAPE how long it is. */
    static void sameMoor(String call, FogKept x, FogKept untouched) {
        List<Long> is = new ArrayList<>();
        List<Long> was = new ArrayList<>();
        moorSeen(x, is);
        moorSeen(untouched, was);
        asked++;
        if (!is.equals(was)) {
            tellWrong("behind " + call + " it is\n" + is + "\nand not, as it was,\n" + was);
        }
    }

    static void refusedInAllMoors(String call, int finding, Call c) {
        for (Supplier<FogKept> moor : moors()) {
            refused(call, moor, finding, c);
        }
    }

    static void noSuchWalker(String call, CallWith c) {
        noSuchWalkerIn(moors(), call, c);
    }

    static void noSuchWalkerIn(List<Supplier<FogKept>> moors, String call, CallWith c) {
        for (Supplier<FogKept> moor : moors) {
            int many = moor.get().count(0);
            for (int w : new int[] {-1, many, many + 1, 8, LEAST, MOST}) {
                refused(call + " of " + w, moor, BEYOND, x -> c.on(x, w));
            }
            if (many > 0) {
                due("findings of the first one", findingOf(moor.get(), c, 0), 0);
                due("findings of the last one", findingOf(moor.get(), c, many - 1), 0);
            }
        }
    }

    /** 1 if the call answers BEYOND. */
    private static int findingOf(FogKept x, CallWith c, int argument) {
        return c.on(x, argument) == BEYOND ? 1 : 0;
    }

    /** The other one of two that has not come, or is one and the same. */
    static void noSuchTwo(String call, TwoCall c) {
        noSuchWalker(call + ", the first", (x, w) -> c.on(x, w, w == 0 ? 1 : 0));
        noSuchWalker(call + ", the second", (x, w) -> c.on(x, w == 0 ? 1 : 0, w));
        for (Supplier<FogKept> moor : moors()) {
            for (int w = 0; w < moor.get().count(0); w++) {
                int one = w;
                refused(call + " of one and the same, " + w, moor, BEYOND, x -> c.on(x, one, one));
            }
        }
    }

    interface TwoCall {
        long on(FogKept x, int walker, int other);
    }

    static void noSuchSheet(String call, CallWith c) {
        for (int s : new int[] {-1, 4, LEAST, MOST}) {
            refusedInAllMoors(call + " of sheet " + s, BEYOND, x -> c.on(x, s));
        }
        for (int s = 0; s < 4; s++) {
            due("findings of sheet " + s, findingOf(full(), c, s), 0);
        }
    }

    // ---- all that can be seen (in so few calls that with the moors below they are under 512)

    static List<Long> picture(FogKept x) {
        List<Long> seen = new ArrayList<>();
        moorSeen(x, seen);
        sheetsSeen(x, seen);
        seen.add((long) x.moor());
        moorSeen(x, seen);
        seen.add((long) x.undo());
        moorSeen(x, seen);
        return seen;
    }

    private static void moorSeen(FogKept x, List<Long> seen) {
        for (int what = 0; what < 6; what++) {
            seen.add((long) x.now(what));
        }
        for (int what = 0; what < 4; what++) {
            seen.add((long) x.count(what));
        }
        int many = x.count(0);
        for (int w = 0; w < many; w++) {
            for (int what = 0; what < 7; what++) {
                seen.add((long) x.of(w, what));
            }
        }
    }

    private static void sheetsSeen(FogKept x, List<Long> seen) {
        for (int s = 0; s < 4; s++) {
            for (int t = 0; t <= s; t++) {
                seen.add((long) x.copy(s, 0, t, 0, 0));
            }
        }
        for (int s = 0; s < 4; s++) {
            long first = x.write(s, 0, 0x123456789abcdefL);
            seen.add(first);
            seen.add(x.write(s, 0, first));
            for (int i = 1; i < 41; i++) {
                seen.add(x.write(s, i, 0));
            }
        }
    }

    // ---- moors to begin with

    static List<Supplier<FogKept>> moors() {
        List<Supplier<FogKept>> moors = new ArrayList<>();
        moors.add(FogKept::new);
        moors.add(Edge::some);
        moors.add(Edge::full);
        return moors;
    }

    static void feedText(FogKept x, String text) {
        for (int i = 0; i < text.length(); i += 4) {
            int n = Math.min(4, text.length() - i);
            int bytes = 0;
            for (int j = i; j < i + n; j++) {
                bytes = bytes << 8 | text.charAt(j);
            }
            x.feed(bytes, n);
        }
    }

    static int moorOf(FogKept x, String text) {
        feedText(x, text);
        return x.moor();
    }

    /** New, with walkers told as kind, cell, kind, cell, .. */
    static FogKept with(int... kindsAndCells) {
        FogKept x = new FogKept();
        for (int i = 0; i < kindsAndCells.length; i += 2) {
            x.walker(kindsAndCells[i], kindsAndCells[i + 1]);
        }
        return x;
    }

    static FogKept after(FogKept x, Call c) {
        c.on(x);
        return x;
    }

    /**
     * Some of everything: 0 KEPT WITH 2 AT 2, 1 FREE, 3 a BAILIFF that is KEPT by itself AT 13; HOUR 8;
     * sheets of 8, 16 and 64 bits (the last of no numbers), 3 MISSING; a text of four items on THE TAPE.
     */
    static FogKept some() {
        FogKept x = with(0, 3, 1, 20, 3, 8, 5, 30);
        x.set(0, 4, 5);
        x.set(1, 3, 2);
        x.set(2, 4, 6);
        x.set(3, 4, 9);
        x.image();
        x.hours(7);
        x.set(3, 1, 13);
        x.set(3, 2, 13);
        x.set(0, 1, 8);
        x.set(0, 3, 0);
        x.keep(0, 2);
        x.fog(1 << 7 | 1 << 20 | 1);
        x.village(13);
        x.hours(1);
        x.sheet(0, 8, 3);
        x.write(0, 0, 13);
        x.write(0, 1, -7);
        x.write(0, 2, 2);
        x.sheet(1, 16, 20);
        for (int i = 0; i < 20; i++) {
            x.write(1, i, 1000 * i - 9000);
        }
        x.sheet(2, 64, 0);
        feedText(x, "village 4;fog 2 to 5;clear 0;canon at 9 heading 3 hopes 12");
        x.at(36);
        x.lays(3);
        return x;
    }

    /** Full of everything: 8 WALKERS, all KEPT, FOG in all hours, sheets of 40 numbers, 120 bytes. */
    static FogKept full() {
        FogKept x = with(3, 7, 4, 7, 0, 0, 2, 0, 5, 35, 1, 35, 5, 14, 3, 14);
        x.image();
        for (int w = 0; w < 8; w++) {
            x.set(w, 4, 15 - w);
            x.set(w, 3, w % 4);
        }
        for (int w = 0; w < 8; w += 2) {
            x.keep(w, w + 1);
        }
        x.fog(ALL_DAY);
        x.village(7);
        int[] bits = {8, 16, 64, 64};
        for (int s = 0; s < 4; s++) {
            x.sheet(s, bits[s], 40);
            x.write(s, 0, -5 - s);
            x.write(s, 3, 14);
            x.write(s, 39, 77 + s);
        }
        StringBuilder text = new StringBuilder("clear 0 to 9;village 35");
        while (text.length() < 120) {
            text.insert(0, ' ');
        }
        feedText(x, text.toString());
        x.walker(0, 0);
        x.as(0, 5);
        return x;
    }
}
