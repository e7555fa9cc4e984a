import java.lang.reflect.Method;
import java.nio.file.Files;
import java.nio.file.Path;
import java.util.ArrayList;
import java.util.Arrays;
import java.util.HashMap;
import java.util.HashSet;
import java.util.IdentityHashMap;
import java.util.LinkedHashMap;
import java.util.List;
import java.util.Map;
import java.util.Set;
import java.util.function.Supplier;
import java.util.regex.Matcher;
import java.util.regex.Pattern;

/**
 * What tests ask with: a test quotes the words of the document that it is for, and asks calls by name. No
 * object is asked more often than the document lets it be used, since what it answers then is free.
 */
final class Asking {
    static final int NONE = -1, BAD = -2, STATE = -3, FULL = -4, MUCH = -5, NOTHING = -11, PLACE = -12, KIND = -13, SIZE = -14;
    static final int MIN = Integer.MIN_VALUE, MAX = Integer.MAX_VALUE;
    static final int CALLS = 512;
    private static final Path DOCUMENT = Path.of("../shared/DOC.md");
    private static final Map<Integer, String> REFUSALS = Map.of(NONE, "NONE", BAD, "BAD", STATE, "STATE", FULL, "FULL",
        MUCH, "MUCH", NOTHING, "NOTHING", PLACE, "PLACE", KIND, "KIND", SIZE, "SIZE");

    private static final Map<String, Method> FACE = new HashMap<>();
    private static final Map<String, String> SECTIONS = new LinkedHashMap<>();
    private static final Map<String, boolean[]> QUOTED = new HashMap<>();
    private static final Map<Object, Integer> ASKED = new IdentityHashMap<>();
    private static final Set<String> REFUSED = new HashSet<>();
    private static String saying = "";
    private static int asked = 0, wrong = 0;

    static {
        for (Method m : PairsStand.class.getDeclaredMethods()) {
            if (java.lang.reflect.Modifier.isPublic(m.getModifiers())) {
                FACE.put(m.getName(), m);
            }
        }
        readDocument();
    }

    private Asking() {
    }

    // ---- the document

    private static void readDocument() {
        try {
            String all = Files.readString(DOCUMENT).replaceAll("```(text|java)?", " ").replaceAll("==== [0-9]", " ");
            for (String part : all.split("\n## ")) {
                int end = part.indexOf('\n');
                String title = end < 0 ? part : part.substring(0, end);
                String body = end < 0 ? "" : part.substring(end);
                if (title.startsWith("Promise ")) {
                    title = title.substring(title.indexOf(": ") + 2);
                    body = body.replaceFirst("`[^`]*`: ", "");
                }
                if (title.equals("Terms")) {
                    body = body.replaceAll("(?m)^Ahead of the calls .*$", "");
                }
                SECTIONS.put(title, body.replaceAll("\\s+", " ").trim());
            }
        } catch (java.io.IOException e) {
            System.out.println("the document isn't here: what tests quote of it is not looked at");
        }
    }

    /** What is asked from here on is for these words, which must stand in the document, under this title. */
    static void says(String section, String words) {
        saying = section + ": " + words;
        if (SECTIONS.isEmpty()) {
            return;
        }
        String body = SECTIONS.getOrDefault(section, "");
        int at = body.indexOf(words);
        if (at < 0) {
            fail("the document has no such words");
            return;
        }
        boolean[] marks = QUOTED.computeIfAbsent(section, s -> new boolean[body.length()]);
        for (; at >= 0; at = body.indexOf(words, at + 1)) {
            Arrays.fill(marks, at, at + words.length(), true);
        }
    }

    /** All that stands under this title has been quoted: so no sentence is without a test. */
    static void quotedWhole(String section) {
        String body = SECTIONS.getOrDefault(section, "");
        boolean[] marks = QUOTED.getOrDefault(section, new boolean[body.length()]);
        StringBuilder left = new StringBuilder();
        for (int i = 0; i < body.length(); i++) {
            boolean isLeft = !marks[i] && Character.isLetterOrDigit(body.charAt(i));
            left.append(isLeft ? body.charAt(i) : i > 0 && marks[i - 1] ? " " : "");
        }
        saying = section;
        if (!left.toString().isBlank()) {
            fail("without a test: " + left.toString().trim().replaceAll(" +", " .. "));
        }
    }

    /** Every refusal that stands with a call has been answered by it. */
    static void refusedWhole() {
        for (Map.Entry<String, String> section : SECTIONS.entrySet()) {
            if (FACE.containsKey(section.getKey())) {
                Matcher word = Pattern.compile("\\b(NONE|BAD|STATE|FULL|MUCH|NOTHING|PLACE|SIZE|KIND(?=[:;.]))\\b").matcher(section.getValue());
                while (word.find()) {
                    saying = section.getKey();
                    if (!REFUSED.contains(section.getKey() + " " + word.group())) {
                        fail("never refused by " + word.group());
                    }
                }
                quotedWhole(section.getKey());
            }
        }
    }

    static List<String> titles() {
        return new ArrayList<>(SECTIONS.keySet());
    }

    // ---- calls

    static long ask(PairsStand x, String call, Object... values) {
        int before = ASKED.merge(x, 1, Integer::sum);
        if (before > CALLS) {
            throw new IllegalStateException("asked too often, at " + saying);
        }
        try {
            return ((Number) FACE.get(call).invoke(x, values)).longValue();
        } catch (ReflectiveOperationException e) {
            throw new IllegalStateException(call + Arrays.toString(values) + " threw, at " + saying, e);
        }
    }

    static int askedOf(PairsStand x) {
        return ASKED.getOrDefault(x, 0);
    }

    static void is(PairsStand x, long want, String call, Object... values) {
        due(call + Arrays.toString(values), ask(x, call, values), want);
        if (want < 0 && REFUSALS.containsKey((int) want)) {
            REFUSED.add(call + " " + REFUSALS.get((int) want));
        }
    }

    static void due(String what, long got, long want) {
        asked++;
        if (got != want) {
            fail(what + " answered " + got + ", due is " + want);
        }
    }

    static void fail(String what) {
        wrong++;
        System.out.println(saying + " -- " + what);
    }

    /** The call is refused so, and nothing that can be asked differs from an object that never had it. */
    static void refuses(Supplier<PairsStand> state, long want, String call, Object... values) {
        PairsStand x = state.get();
        is(x, want, call, values);
        same(call + Arrays.toString(values), now(x), now(state.get()));
        PairsStand again = state.get();
        is(again, want, call, values);
        same(call + Arrays.toString(values), image(again), image(state.get()));
    }

    static void same(String what, List<String> got, List<String> want) {
        asked++;
        for (int k = 0; k < Math.max(got.size(), want.size()); k++) {
            String one = k < got.size() ? got.get(k) : "nothing";
            String two = k < want.size() ? want.get(k) : "nothing";
            if (!one.equals(two)) {
                fail(what + " has changed: " + one + ", due is " + two);
                return;
            }
        }
    }

    // ---- all that can be seen of an object (it is no longer of use then)

    private static void note(List<String> seen, PairsStand x, String call, Object... values) {
        seen.add(call + Arrays.toString(values) + " = " + ask(x, call, values));
    }

    static List<String> now(PairsStand x) {
        List<String> seen = new ArrayList<>();
        for (int s = 0; s < 4; s++) {
            long v = 0;
            for (int i = 0; i <= 30 && v != NOTHING && v != PLACE; i++) {
                note(seen, x, "read", s, i);
                v = ask(x, "read", s, i);
            }
            note(seen, x, "cell", s, 0, 1L << 40);
        }
        for (int hand = 0; hand < 4; hand++) {
            for (int i = 0; i < 6; i++) {
                note(seen, x, "asPair", hand, i);
            }
            for (int i = 0; i < 7; i++) {
                note(seen, x, "asRay", hand, i);
            }
        }
        seen.addAll(kept(x));
        return seen;
    }

    static List<String> image(PairsStand x) {
        List<String> seen = new ArrayList<>();
        note(seen, x, "back");
        seen.addAll(kept(x));
        return seen;
    }

    /** What AN IMAGE keeps. */
    static List<String> kept(PairsStand x) {
        List<String> seen = new ArrayList<>();
        for (int what = 0; what < 5; what++) {
            note(seen, x, "count", what);
        }
        long pairs = ask(x, "count", 0);
        for (int p = 0; p < pairs; p++) {
            for (int what = 0; what < 4; what++) {
                note(seen, x, "told", p, what);
            }
            note(seen, x, "nameAt", p);
            for (int i = 0; i < 12; i++) {
                note(seen, x, "entry", p, i / 6, i % 6, 0);
            }
        }
        for (int a = 0; a < 8; a++) {
            for (int b = a + 1; b < 8; b++) {
                note(seen, x, "link", a, b, 0);
            }
        }
        return seen;
    }

    // ---- states

    static PairsStand made() {
        return new PairsStand();
    }

    static PairsStand field(int prime, int wide) {
        PairsStand x = made();
        ask(x, "field", prime, wide);
        return x;
    }

    static PairsStand rows(PairsStand x, int pair, int[] a, int[] b) {
        for (int i = 0; i < a.length; i++) {
            ask(x, "entry", pair, 0, i, a[i]);
        }
        for (int i = 0; i < b.length; i++) {
            ask(x, "entry", pair, 1, i, b[i]);
        }
        return x;
    }

    /** PAIRS whose two ROWS are each 1 at one place, else 0. */
    static PairsStand edges(int prime, int wide, int... ends) {
        PairsStand x = field(prime, wide);
        for (int k = 0; k < ends.length; k += 2) {
            edge(x, ends[k], ends[k + 1], 1);
        }
        return x;
    }

    static int edge(PairsStand x, int i, int j, int weight) {
        int p = (int) ask(x, "pair", 0, weight);
        ask(x, "entry", p, 0, i, 1);
        ask(x, "entry", p, 1, j, 1);
        return p;
    }

    /**
     * PRIME 11, WIDE 4. PAIRS: 0 "a", WEIGHT 7, (0 1 0 0; 0 0 1 0); 1 FLAT, WEIGHT 3, (1 2 3 4 5 6; 9 8 7); 2 "zz" LOW, WEIGHT 7,
     * (-1 0 0 2; 3 1); 3 of no WEIGHT, all 0. POINT 0 has LINES to 1, 2, 3. SHEETS: 13 ints, 3 longs, no ints, missing. HANDS: PAIR
     * 2, RAY 0, RAY 2, nothing. THE IMAGE is of one PAIR, "old", by 5, WIDE 3, with a LINE.
     */
    static PairsStand rich() {
        PairsStand x = edges(5, 3, 1, 2);
        ask(x, "name", 0, text("old"));
        ask(x, "link", 6, 7, 1);
        ask(x, "image");
        ask(x, "field", 11, 4);
        ask(x, "link", 6, 7, 0);
        ask(x, "link", 0, 1, 1);
        ask(x, "link", 0, 2, 1);
        ask(x, "link", 0, 3, 1);
        ask(x, "set", 0, 1, 7);
        ask(x, "name", 0, text("a"));
        ask(x, "pair", 5, 3);
        rows(x, 1, new int[] {1, 2, 3, 4, 5, 6}, new int[] {9, 8, 7});
        ask(x, "pair", 4, 7);
        rows(x, 2, new int[] {-1, 0, 0, 2}, new int[] {3, 1});
        ask(x, "name", 2, text("zz"));
        ask(x, "pair", 0, 0);
        sheet(x, 0, 0, 5, -6, 7, 8, 9, 1, 2, 3, 4, 5, 6, 7, 8);
        sheet(x, 1, 1, 1L << 50, 2, 3);
        sheet(x, 2, 0);
        ask(x, "hold", 0, 1, 2);
        ask(x, "hold", 1, 2, 0);
        ask(x, "hold", 2, 2, 2);
        return x;
    }

    static PairsStand full() {
        return edges(97, 6, 0, 1, 0, 2, 0, 3, 0, 4, 0, 5, 1, 2, 1, 3, 1, 4, 1, 5, 2, 3);
    }

    static PairsStand sheet(PairsStand x, int s, int sort, long... cells) {
        ask(x, "sheet", s, sort, cells.length);
        for (int i = 0; i < cells.length; i++) {
            ask(x, "cell", s, i, cells[i]);
        }
        return x;
    }

    static PairsStand net(int... ends) {
        PairsStand x = made();
        for (int k = 0; k < ends.length; k += 2) {
            ask(x, "link", ends[k], ends[k + 1], 1);
        }
        return x;
    }

    static long text(String letters) {
        long v = 0;
        for (int i = 0; i < 8; i++) {
            v = v << 8 | (i < letters.length() ? letters.charAt(i) : 0);
        }
        return v;
    }

    static int bits(int... places) {
        int set = 0;
        for (int p : places) {
            set |= 1 << p;
        }
        return set;
    }

    static void end(String test) {
        System.out.println(test + ": " + (wrong == 0 ? "all " + asked + " answers are as due" : wrong + " are not as due"));
        if (wrong != 0) {
            System.exit(1);
        }
    }
}
