import java.util.function.Supplier;

/** The promises, sentence by sentence, each with its edges; a refused call, and one that only asks, changes nothing. */
public final class EdgesTest {
    private static final int NONE = Asking.NONE, BAD = Asking.BAD, STATE = Asking.STATE, FULL = Asking.FULL, MUCH = Asking.MUCH;
    private static final int NOTHING = Asking.NOTHING, PLACE = Asking.PLACE, KIND = Asking.KIND, SIZE = Asking.SIZE;
    private static final int MIN = Asking.MIN, MAX = Asking.MAX;
    private static final Integer[] NO_PAIR = {-1, 4, 9, 10, MIN, MAX}, NO_BIT = {-1, 2, MIN, MAX}, NO_FOUR = {-1, 4, MIN, MAX};
    private static final Long[] NO_NAME = {0L, 1L, -1L, Asking.text("aaaaaaaa"), Asking.text("A"), Asking.text("a\0a"), Long.MIN_VALUE,
        Long.MAX_VALUE};

    public static void main(String[] args) {
        Runnable[] all = {EdgesTest::newObject, EdgesTest::field, EdgesTest::divided, EdgesTest::pair, EdgesTest::entry, EdgesTest::set,
            EdgesTest::told, EdgesTest::number, EdgesTest::drop, EdgesTest::name, EdgesTest::named, EdgesTest::unname, EdgesTest::nameAt,
            EdgesTest::rank, EdgesTest::stands, EdgesTest::most, EdgesTest::best, EdgesTest::heavy, EdgesTest::queue, EdgesTest::greedy,
            EdgesTest::better, EdgesTest::table, EdgesTest::half, EdgesTest::root, EdgesTest::claim, EdgesTest::sure, EdgesTest::cover,
            EdgesTest::cheap, EdgesTest::rays, EdgesTest::ray, EdgesTest::rayOf, EdgesTest::link, EdgesTest::breaks,
            EdgesTest::feedback, EdgesTest::hold, EdgesTest::asPair, EdgesTest::asRay, EdgesTest::compare, EdgesTest::sheet,
            EdgesTest::cell, EdgesTest::read, EdgesTest::load, EdgesTest::image, EdgesTest::back, EdgesTest::count};
        for (Runnable one : all) {
            one.run();
        }
        Asking.quotedWhole("A new object");
        Asking.refusedWhole();
        Asking.end("edges");
    }

    // ---- what is asked here

    private static void says(String call, String words) {
        Asking.says(call, words);
    }

    private static void is(PairsStand x, long want, String call, Object... values) {
        Asking.is(x, want, call, values);
    }

    private static void refuses(long want, String call, Object... values) {
        Asking.refuses(EdgesTest::rich, want, call, values);
    }

    /** The same look at what has changed is right for a call that only asks. */
    private static void asks(long want, String call, Object... values) {
        Asking.refuses(EdgesTest::rich, want, call, values);
    }

    /** Each argument by itself as each of the values that it may not be, the others being right. */
    private static void bad(String call, Object[] right, Object[]... wrong) {
        for (int k = 0; k < right.length; k++) {
            for (Object v : wrong[k]) {
                Object[] values = right.clone();
                values[k] = v;
                refuses(BAD, call, values);
            }
        }
    }

    private static Object[] of(Object... values) {
        return values;
    }

    private static PairsStand rich() {
        return Asking.rich();
    }

    private static PairsStand full() {
        return Asking.full();
    }

    private static int bits(int... places) {
        return Asking.bits(places);
    }

    private static long text(String letters) {
        return Asking.text(letters);
    }

    // ---- numbers, pairs

    private static void newObject() {
        says("A new object", "PRIME 7, WIDE 4, no PAIRS, no LINES.");
        PairsStand x = new PairsStand();
        int[] counts = {0, 7, 4, 0, 0};
        for (int what = 0; what < 5; what++) {
            is(x, counts[what], "count", what);
        }
        is(x, STATE, "drop");
        is(x, STATE, "back");
        for (int k = 0; k < 4; k++) {
            is(x, NOTHING, "read", k, 0);
            is(x, NOTHING, "asPair", k, 0);
            is(x, 0, "hold", k, 0, 0);
        }
        for (int a = 0; a < 8; a++) {
            for (int b = a + 1; b < 8; b++) {
                is(x, 0, "link", a, b, 0);
            }
        }
        is(rich(), 4, "count", 0);
        Asking.same("another object", Asking.now(new PairsStand()), Asking.now(x));
    }

    private static void field() {
        says("field", "PRIME and WIDE become others (PAIRS stay): what PRIME was.");
        PairsStand x = rich();
        is(x, 11, "field", 2, 1);
        is(x, 2, "field", 2, 1);
        is(x, 2, "field", 97, 6);
        is(x, 97, "field", 97, 6);
        is(x, 4, "count", 0);
        is(x, 2, "count", 3);
        is(x, 3, "count", 4);
        is(x, 6, "number", 1, 0, 5);
        is(x, 96, "number", 2, 1, 0);
        is(x, 97, "field", 11, 4);
        Asking.same("PAIRS stay", Asking.now(x), Asking.now(rich()));
        says("field", "BAD.");
        bad("field", of(7, 4), of(MIN, -7, -1, 0, 1, 4, 6, 8, 9, 15, 25, 49, 91, 95, 96, 98, 99, 100, 101, MAX), of(MIN, -1, 0, 7, 8, MAX));
    }

    private static void divided() {
        says("divided", "The number 0 .. q - 1 that times b has the rest of a.");
        int[] some = {MIN, MIN + 1, -100, -97, -1, 0, 1, 2, 48, 96, 97, 98, 194, MAX - 1, MAX};
        for (int q = 2; q <= 97; q++) {
            PairsStand x = new PairsStand();
            if (x.field(q, 4) == BAD) {
                continue;
            }
            for (int a : some) {
                for (int b : some) {
                    long got = Asking.ask(x, "divided", a, b);
                    boolean fits = got >= 0 && got < q && (got * b - a) % q == 0;
                    Asking.due("divided " + a + " " + b + " by " + q, b % q == 0 ? got : fits ? 1 : 0, b % q == 0 ? BAD : 1);
                }
            }
        }
        asks(0, "divided", 0, 10);
        asks(1, "divided", -1, -1);
        asks(6, "divided", 1, 2);
        says("divided", "BAD: b's rest is 0.");
        for (int b : new int[] {0, 11, -11, 110, 11 * (MAX / 11), 11 * (MIN / 11)}) {
            refuses(BAD, "divided", 3, b);
            refuses(BAD, "divided", 0, b);
        }
    }

    private static void pair() {
        says("pair", "One more PAIR: its number.");
        PairsStand x = Asking.made();
        for (int p = 0; p < 10; p++) {
            is(x, p, "pair", p % 6, 999 * (p % 2));
            is(x, p + 1, "count", 0);
        }
        for (int p = 0; p < 10; p++) {
            is(x, p % 6, "told", p, 0);
            is(x, 999 * (p % 2), "told", p, 1);
        }
        says("pair", "BAD; FULL.");
        bad("pair", of(0, 0), of(MIN, -1, 6, MAX), of(MIN, -1, 1000, MAX));
        Asking.refuses(EdgesTest::full, FULL, "pair", 0, 0);
        Asking.refuses(EdgesTest::full, FULL, "pair", 5, 999);
        Asking.refuses(EdgesTest::full, BAD, "pair", -1, 0);
        Asking.refuses(EdgesTest::full, BAD, "pair", 0, -1);
        is(x, 9, "drop");
        is(x, 9, "pair", 0, 0);
    }

    private static void entry() {
        says("entry", "Number i (0 .. 5) of A (which 0), B (1) of a PAIR becomes v: what it was.");
        PairsStand x = full();
        for (int k = 0; k < 12; k++) {
            is(x, k == 2 || k == 9 ? 1 : 0, "entry", 9, k / 6, k % 6, k % 2 == 0 ? 99 : -99);
        }
        for (int k = 0; k < 12; k++) {
            is(x, k % 2 == 0 ? 2 : 95, "number", 9, k / 6, k % 6);
            is(x, k % 2 == 0 ? 99 : -99, "entry", 9, k / 6, k % 6, 0);
            is(x, k == 1 || k == 11 ? 1 : 0, "entry", 8, k / 6, k % 6, 0);
        }
        PairsStand narrow = Asking.edges(7, 1, 5, 5);
        is(narrow, 1, "entry", 0, 1, 5, 4);
        is(narrow, 4, "entry", 0, 1, 5, 4);
        says("entry", "BAD.");
        bad("entry", of(1, 0, 5, 0), NO_PAIR, NO_BIT, of(-1, 6, 12, MIN, MAX), of(-100, 100, MIN, MAX));
        Asking.refuses(Asking::made, BAD, "entry", 0, 0, 0, 0);
    }

    private static void set() {
        says("set", "KIND (what 0), WEIGHT (1) of a PAIR becomes v: what it was.");
        PairsStand x = rich();
        is(x, 5, "set", 1, 0, 0);
        is(x, 0, "set", 1, 0, 5);
        is(x, 3, "set", 1, 1, 999);
        is(x, 999, "set", 1, 1, 0);
        is(x, 0, "set", 1, 1, 3);
        Asking.same("as it was", Asking.now(x), Asking.now(rich()));
        PairsStand ten = full();
        is(ten, 1, "set", 9, 1, 5);
        is(ten, 0, "told", 9, 2);
        is(ten, 0, "set", 9, 0, 2);
        is(ten, 1, "number", 9, 0, 3);
        says("set", "BAD.");
        bad("set", of(1, 0, 3), NO_PAIR, NO_BIT, of(-1, 6, 999, MIN, MAX));
        bad("set", of(1, 1, 3), NO_PAIR, NO_BIT, of(-1, 1000, MIN, MAX));
        Asking.refuses(Asking::made, BAD, "set", 0, 0, 0);
    }

    private static void told() {
        says("told", "Of a PAIR: 0 KIND, 1 WEIGHT, 2 its place in QUEUE (from 0 on), 3 its place in order of NAMES (NONE: it has none), "
            + "4 RANK of its ROWS.");
        int[][] due = {{0, 7, 0, 0, 2}, {5, 3, 2, NONE, 1}, {4, 7, 1, 1, 2}, {0, 0, 3, NONE, 0}};
        for (int p = 0; p < 4; p++) {
            for (int what = 0; what < 5; what++) {
                asks(due[p][what], "told", p, what);
            }
        }
        says("told", "BAD.");
        bad("told", of(0, 0), NO_PAIR, of(-1, 5, MIN, MAX));
        bad("told", of(1, 3), NO_PAIR, of(-1, 5, MIN, MAX));
        Asking.refuses(Asking::made, BAD, "told", 0, 0);
        Asking.refuses(EdgesTest::full, BAD, "told", 10, 0);
    }

    private static void number() {
        says("number", "Number i (0 .. WIDE - 1) of its first ROW (row 0), its second (1).");
        asks(4, "number", 1, 0, 3);
        asks(4, "number", 1, 1, 3);
        asks(0, "number", 2, 0, 0);
        asks(1, "number", 2, 0, 1);
        asks(10, "number", 2, 1, 0);
        asks(2, "number", 2, 1, 3);
        is(full(), 1, "number", 4, 1, 5);
        says("number", "BAD.");
        bad("number", of(1, 0, 0), NO_PAIR, NO_BIT, of(-1, 4, 5, 6, MIN, MAX));
        Asking.refuses(EdgesTest::full, BAD, "number", 9, 1, 6);
        Asking.refuses(EdgesTest::full, BAD, "number", 10, 0, 0);
        Asking.refuses(Asking::made, BAD, "number", 0, 0, 0);
        PairsStand one = Asking.edges(7, 1, 0, 0);
        is(one, 1, "number", 0, 1, 0);
        is(one, BAD, "number", 0, 1, 1);
    }

    private static void drop() {
        says("drop", "The PAIR that came last is no more, nor is its NAME: how many there are.");
        PairsStand x = rich();
        is(x, 3, "drop");
        is(x, 2, "count", 3);
        is(x, 2, "drop");
        is(x, 1, "count", 3);
        is(x, NONE, "named", text("zz"));
        is(x, PLACE, "nameAt", 1);
        is(x, 1, "name", 1, text("zz"));
        is(x, 2, "pair", 0, 0);
        is(x, NONE, "told", 2, 3);
        is(x, STATE, "name", 2, text("zz"));
        is(x, 0, "told", 2, 4);
        is(x, 7, "asPair", 0, 4);
        PairsStand ten = full();
        for (int p = 9; p >= 0; p--) {
            is(ten, p, "drop");
            is(ten, BAD, "told", p, 0);
        }
        says("drop", "STATE: there are none.");
        is(ten, STATE, "drop");
        Asking.refuses(Asking::made, STATE, "drop");
        is(ten, 0, "pair", 0, 0);
        is(ten, 0, "drop");
        is(ten, STATE, "drop");
    }

    // ---- names

    private static void name() {
        says("name", "A PAIR gets a NAME (it loses the one it had): 1.");
        PairsStand x = rich();
        is(x, 1, "name", 0, text("z"));
        is(x, NONE, "named", text("a"));
        is(x, 0, "named", text("z"));
        is(x, 2, "count", 3);
        is(x, 1, "name", 1, text("a"));
        is(x, 1, "name", 3, text("zzzzzzz"));
        is(x, 4, "count", 3);
        is(x, 1, "named", text("a"));
        is(x, 3, "named", text("zzzzzzz"));
        says("name", "BAD: pair, no NAME;");
        bad("name", of(0, text("q")), NO_PAIR, NO_NAME);
        bad("name", of(1, text("a")), NO_PAIR, NO_NAME);
        Asking.refuses(Asking::made, BAD, "name", 0, text("a"));
        says("name", "STATE: another PAIR (not itself) has it.");
        refuses(STATE, "name", 1, text("a"));
        refuses(STATE, "name", 2, text("a"));
        refuses(STATE, "name", 0, text("zz"));
        asks(1, "name", 0, text("a"));
        asks(1, "name", 2, text("zz"));
        is(x, STATE, "name", 0, text("zzzzzzz"));
        is(x, 1, "name", 0, text("zzzzzz"));
    }

    private static void named() {
        says("named", "The PAIR that has a NAME.");
        asks(0, "named", text("a"));
        asks(2, "named", text("zz"));
        PairsStand ten = full();
        is(ten, 1, "name", 9, text("abcdefg"));
        is(ten, 9, "named", text("abcdefg"));
        says("named", "BAD: no NAME;");
        bad("named", of(text("a")), NO_NAME);
        Asking.refuses(Asking::made, BAD, "named", 0L);
        says("named", "NONE.");
        refuses(NONE, "named", text("z"));
        refuses(NONE, "named", text("zzz"));
        refuses(NONE, "named", text("old"));
        refuses(NONE, "named", text("aa"));
        Asking.refuses(Asking::made, NONE, "named", text("a"));
    }

    private static void unname() {
        says("unname", "It has no NAME then: 1, 0 (it had none).");
        PairsStand x = rich();
        is(x, 1, "unname", 2);
        is(x, 0, "unname", 2);
        is(x, NONE, "told", 2, 3);
        is(x, NONE, "named", text("zz"));
        is(x, 1, "count", 3);
        is(x, PLACE, "nameAt", 1);
        is(x, 1, "name", 1, text("zz"));
        asks(0, "unname", 1);
        asks(0, "unname", 3);
        says("unname", "BAD.");
        bad("unname", of(0), NO_PAIR);
        Asking.refuses(Asking::made, BAD, "unname", 0);
    }

    private static void nameAt() {
        says("nameAt", "NAME k, in order of the alphabet (one that another one begins with comes first).");
        PairsStand x = full();
        String[] told = {"zzzzzzz", "b", "aaaaaaa", "a", "az", "ab", "abc", "abb", "aba", "zzzzzz"};
        String[] order = {"a", "aaaaaaa", "ab", "aba", "abb", "abc", "az", "b", "zzzzzz", "zzzzzzz"};
        is(x, PLACE, "nameAt", 0);
        for (int p = 0; p < 10; p++) {
            is(x, 1, "name", p, text(told[p]));
            is(x, PLACE, "nameAt", p + 1);
        }
        for (int k = 0; k < 10; k++) {
            is(x, text(order[k]), "nameAt", k);
            is(x, text(told[k]), "nameAt", (int) Asking.ask(x, "told", k, 3));
        }
        asks(text("a"), "nameAt", 0);
        asks(text("zz"), "nameAt", 1);
        says("nameAt", "PLACE.");
        for (int k : new int[] {-1, 2, 3, 4, MIN, MAX}) {
            refuses(PLACE, "nameAt", k);
        }
        is(x, PLACE, "nameAt", 10);
        is(x, PLACE, "nameAt", -1);
        Asking.refuses(Asking::made, PLACE, "nameAt", 0);
    }

    // ---- what stands

    private static final Integer[] NO_SET = {16, 17, 32, 512, 1023, 1024, 1 << 30, -1, -16, MIN, MAX};

    private static void rank() {
        says("rank", "RANK of the ROWS of all PAIRS of a SET.");
        int[] due = {0, 2, 1, 3, 2, 3, 3, 4, 0, 2, 1, 3, 2, 3, 3, 4};
        for (int set = 0; set < 16; set++) {
            asks(due[set], "rank", set);
        }
        says("rank", "BAD: a PAIR that isn't there.");
        bad("rank", of(0), NO_SET);
        Asking.refuses(EdgesTest::full, BAD, "rank", 1024);
        is(full(), 6, "rank", 1023);
        is(Asking.made(), 0, "rank", 0);
        is(Asking.made(), BAD, "rank", 1);
    }

    private static void stands() {
        says("stands", "1, 0.");
        int[] due = {1, 1, 0, 0, 1, 0, 0, 0, 0, 0, 0, 0, 0, 0, 0, 0};
        for (int set = 0; set < 16; set++) {
            asks(due[set], "stands", set);
        }
        says("stands", "BAD likewise.");
        bad("stands", of(0), NO_SET);
        Asking.refuses(EdgesTest::full, BAD, "stands", 1024);
        is(full(), 0, "stands", 1023);
        is(Asking.made(), 1, "stands", 0);
        is(Asking.made(), BAD, "stands", 1);
    }

    private static void most() {
        says("most", "MOST.");
        asks(1, "most");
        is(full(), 3, "most");
        is(Asking.made(), 0, "most");
        is(Asking.edges(7, 1, 0, 0), 0, "most");
        is(Asking.edges(2, 2, 0, 1), 1, "most");
        is(Asking.edges(97, 5, 0, 1, 2, 3, 4, 4), 2, "most");
    }

    private static void best() {
        says("best", "BEST (what 0), how many SETS with as many STAND (1), PAIRS that are in each (2), in any of them (3).");
        int[] rich = {1, 2, 0, 5};
        int[] ten = {bits(4, 7, 9), 2, bits(9), bits(3, 4, 7, 8, 9)};
        int[] none = {0, 1, 0, 0};
        int[] all = {7, 1, 7, 7};
        for (int what = 0; what < 4; what++) {
            asks(rich[what], "best", what);
            is(full(), ten[what], "best", what);
            is(Asking.made(), none[what], "best", what);
            is(Asking.edges(7, 1, 0, 1, 2, 3), none[what], "best", what);
            is(Asking.edges(7, 6, 0, 1, 2, 3, 4, 5), all[what], "best", what);
        }
        says("best", "BAD.");
        bad("best", of(0), of(-1, 4, MIN, MAX));
    }

    private static void heavy() {
        says("heavy", "HEAVY (what 0), its WEIGHTS together (1).");
        asks(1, "heavy", 0);
        asks(7, "heavy", 1);
        is(full(), bits(4, 7, 9), "heavy", 0);
        is(full(), 3, "heavy", 1);
        is(Asking.made(), 0, "heavy", 0);
        is(Asking.made(), 0, "heavy", 1);
        says("heavy", "BAD.");
        bad("heavy", of(0), NO_BIT);
    }

    private static void queue() {
        says("queue", "PAIR k of QUEUE.");
        int[] due = {0, 2, 1, 3};
        for (int k = 0; k < 4; k++) {
            asks(due[k], "queue", k);
        }
        is(full(), 9, "queue", 9);
        says("queue", "PLACE.");
        for (int k : new int[] {-1, 4, 9, 10, MIN, MAX}) {
            refuses(PLACE, "queue", k);
        }
        Asking.refuses(EdgesTest::full, PLACE, "queue", 10);
        Asking.refuses(Asking::made, PLACE, "queue", 0);
    }

    private static void greedy() {
        says("greedy", "GREEDY (what 0), its WEIGHTS together (1).");
        asks(1, "greedy", 0);
        asks(7, "greedy", 1);
        is(full(), bits(0, 9), "greedy", 0);
        is(full(), 2, "greedy", 1);
        PairsStand three = Asking.edges(7, 6, 0, 1, 2, 3, 4, 5);
        for (int p = 0; p < 3; p++) {
            is(three, 1, "set", p, 1, 999);
        }
        is(three, 7, "greedy", 0);
        is(three, 2997, "greedy", 1);
        is(Asking.made(), 0, "greedy", 0);
        says("greedy", "BAD.");
        bad("greedy", of(0), NO_BIT);
    }

    private static void better() {
        says("better", "BETTERED.");
        asks(1, "better", 0);
        asks(1, "better", 1);
        asks(4, "better", 4);
        is(full(), bits(3, 8, 9), "better", 0);
        is(Asking.made(), 0, "better", 0);
        says("better", "BAD: a PAIR that isn't there;");
        bad("better", of(0), NO_SET);
        Asking.refuses(EdgesTest::full, BAD, "better", 1024);
        Asking.refuses(Asking::made, BAD, "better", 1);
        says("better", "STATE: it doesn't STAND.");
        for (int set : new int[] {2, 3, 5, 8, 9, 15}) {
            refuses(STATE, "better", set);
        }
        Asking.refuses(EdgesTest::full, STATE, "better", 1023);
    }

    // ---- tables

    private static void table() {
        says("table", "Number i, j of TABLE, by rests, by the numbers of a SHEET: place k for PAIR k, 0 for those that lack.");
        int[][] due = {{0, 7, 0, 0}, {4, 0, 5, 3}, {0, 6, 0, 0}, {0, 8, 0, 0}};
        for (int i = 0; i < 4; i++) {
            for (int j = 0; j < 4; j++) {
                asks(due[i][j], "table", 0, i, j);
                asks(0, "table", 2, i, j);
            }
        }
        asks(1, "table", 1, 1, 2);
        asks(8, "table", 1, 1, 0);
        PairsStand x = rich();
        for (int n = 0; n <= 3; n++) {
            Asking.sheet(x, 3, 1, new long[n]);
            for (int i = 0; i < n; i++) {
                is(x, 1, "cell", 3, i, 1L);
            }
            is(x, n >= 1 ? 1 : 0, "table", 3, 1, 2);
            is(x, n >= 3 ? 2 : 0, "table", 3, 1, 3);
        }
        is(x, 1, "sheet", 3, 1, 30);
        is(x, 0, "table", 3, 1, 2);
        is(Asking.sheet(Asking.made(), 0, 0, 9), 0, "table", 0, 3, 0);
        says("table", "BAD; NOTHING.");
        bad("table", of(0, 0, 0), NO_FOUR, of(-1, 4, 5, MIN, MAX), of(-1, 4, 5, MIN, MAX));
        refuses(NOTHING, "table", 3, 0, 3);
        refuses(BAD, "table", 3, 0, 4);
        refuses(BAD, "table", 3, -1, 0);
    }

    private static void half() {
        says("half", "HALF of that TABLE.");
        asks(1, "half", 0);
        asks(1, "half", 1);
        asks(0, "half", 2);
        PairsStand ten = Asking.sheet(full(), 0, 0, 1, 1, 1, 1, 1, 1, 1, 1, 2, 1);
        is(ten, 3, "half", 0);
        is(ten, 1, "cell", 0, 8, 1);
        is(ten, 2, "half", 0);
        is(ten, 1, "cell", 0, 8, -96);
        is(ten, 2, "half", 0);
        is(ten, 1, "cell", 0, 8, 99);
        is(ten, 3, "half", 0);
        is(Asking.sheet(Asking.made(), 0, 0, 9), 0, "half", 0);
        says("half", "BAD; NOTHING.");
        bad("half", of(0), NO_FOUR);
        refuses(NOTHING, "half", 3);
    }

    private static Supplier<PairsStand> wide(int wide) {
        return () -> {
            PairsStand x = rich();
            x.field(11, wide);
            return x;
        };
    }

    private static void root() {
        says("root", "ROOT of that TABLE in whole numbers.");
        asks(0, "root", 0);
        asks(0, "root", 2);
        Asking.refuses(wide(2), -70, "root", 0);
        PairsStand x = Asking.sheet(Asking.edges(97, 4, 0, 1, 0, 2, 0, 3, 1, 2, 1, 3, 2, 3), 0, 0, 1, 2, 3, 4, 5, 6);
        is(x, 8, "root", 0);
        is(x, 1, "sheet", 0, 0, 5);
        is(x, 0, "root", 0);
        says("root", "BAD; NOTHING; STATE: WIDE is odd; MUCH.");
        bad("root", of(0), NO_FOUR);
        refuses(NOTHING, "root", 3);
        refuses(MUCH, "root", 1);
        for (int wide = 1; wide <= 5; wide += 2) {
            Asking.refuses(wide(wide), STATE, "root", 0);
            Asking.refuses(wide(wide), STATE, "root", 1);
            Asking.refuses(wide(wide), NOTHING, "root", 3);
            Asking.refuses(wide(wide), BAD, "root", 4);
        }
        Asking.refuses(wide(6), MUCH, "root", 1);
        Asking.refuses(wide(2), -30, "root", 1);
    }

    private static void claim() {
        says("claim", "n times (1 .. 20), by DRAWS of seed, one behind the other, a TABLE by a number for each PAIR (from 0 on, a DRAW % q): "
            + "the greatest HALF.");
        for (int seed : new int[] {0, 1, -1, 5, 77, MIN, MAX}) {
            for (int n = 1; n <= 20; n++) {
                PairsStand x = Asking.edges(2, 6, 0, 1, 2, 3, 4, 5);
                int z = seed;
                int greatest = 0;
                int threes = 0;
                for (int t = 0; t < n; t++) {
                    int half = 0;
                    for (int p = 0; p < 3; p++) {
                        z = z * 1103515245 + 12345;
                        half += (z >>> 8) % 2;
                    }
                    greatest = Math.max(greatest, half);
                    threes += half == 3 ? 1 : 0;
                }
                is(x, greatest, "claim", seed, n);
                is(x, threes, "sure", seed, n);
            }
        }
        asks(1, "claim", 7, 20);
        is(Asking.made(), 0, "claim", 7, 20);
        is(Asking.edges(97, 1, 0, 0), 0, "claim", 7, 20);
        is(full(), 3, "claim", 7, 20);
        says("claim", "BAD.");
        bad("claim", of(3, 1), of(), of(0, 21, -1, MIN, MAX));
    }

    private static void sure() {
        says("sure", "How many of n (1 .. 20) such TABLES have HALF as MOST.");
        is(Asking.made(), 1, "sure", 7, 1);
        is(Asking.made(), 20, "sure", 7, 20);
        is(Asking.edges(97, 1, 0, 0), 20, "sure", 7, 20);
        PairsStand one = Asking.edges(97, 6, 0, 1);
        for (int seed = 0; seed < 200; seed++) {
            int drawn = (seed * 1103515245 + 12345 >>> 8) % 97;
            is(one, drawn == 0 ? 0 : 1, "sure", seed, 1);
            is(one, drawn == 0 ? 0 : 1, "claim", seed, 1);
        }
        asks(Asking.ask(rich(), "sure", 3, 20), "sure", 3, 20);
        says("sure", "BAD.");
        bad("sure", of(3, 1), of(), of(0, 21, -1, MIN, MAX));
    }

    // ---- covers

    private static void cover() {
        says("cover", "COVER by AXES and the classes that a SHEET tells: place k for PAIR k; PAIRS of like numbers are of one class, those "
            + "that lack are each of one of their own.");
        asks(2, "cover", 0, 0);
        asks(1, "cover", 0, 2);
        asks(4, "cover", 0, 15);
        asks(2, "cover", 1, 0);
        asks(2, "cover", 2, 0);
        PairsStand x = Asking.edges(7, 6, 0, 1, 1, 2, 2, 0, 3, 4, 4, 5, 5, 3);
        int[] due = {6, 6, 5, 4, 4, 4, 3};
        for (int n = 0; n <= 6; n++) {
            Asking.sheet(x, 0, 1, new long[n]);
            is(x, due[n], "cover", 0, 0);
        }
        is(Asking.sheet(x, 0, 1, 0, 1L << 32, 0, -1, 1L << 32, 0), 5, "cover", 0, 0);
        is(Asking.sheet(x, 0, 1, 9, 9, 9, -9, -9, -9), 2, "cover", 0, 0);
        is(Asking.sheet(x, 0, 1, -9, 9, -9, 9, -9, 9), 4, "cover", 0, 0);
        is(x, 1, "sheet", 0, 0, 30);
        is(x, 3, "cover", 0, 0);
        is(x, 6, "cover", 0, 63);
        says("cover", "BAD: sheet, axes; NOTHING.");
        bad("cover", of(0, 0), NO_FOUR, of(-1, 16, 17, 63, 64, MIN, MAX));
        refuses(NOTHING, "cover", 3, 15);
        refuses(BAD, "cover", 3, 16);
        is(x, BAD, "cover", 0, 64);
    }

    private static void cheap() {
        says("cheap", "Of all AXES with all PAIRS in one class (how 0), each in one of its own (1): the least COVER (what 0), the least number "
            + "of AXES that has it (1).");
        asks(2, "cheap", 0, 0);
        asks(0, "cheap", 0, 1);
        asks(1, "cheap", 1, 0);
        asks(2, "cheap", 1, 1);
        PairsStand last = Asking.edges(7, 6, 5, 0, 5, 1, 5, 2, 5, 3);
        is(last, 1, "cheap", 1, 0);
        is(last, 32, "cheap", 1, 1);
        is(last, 2, "cheap", 0, 0);
        is(last, 0, "cheap", 0, 1);
        PairsStand like = Asking.edges(7, 4, 1, 2, 2, 3, 3, 1);
        is(like, 2, "cheap", 1, 0);
        is(like, 2, "cheap", 1, 1);
        PairsStand all = Asking.edges(7, 6, 0, 1, 0, 2, 0, 3, 0, 4, 0, 5, 1, 2, 1, 3, 1, 4, 1, 5, 2, 3);
        is(all, 3, "cheap", 1, 0);
        is(all, 3, "cheap", 1, 1);
        for (int how = 0; how < 2; how++) {
            is(Asking.made(), 0, "cheap", how, 0);
            is(Asking.made(), 0, "cheap", how, 1);
            is(Asking.edges(7, 1, 0, 0), 0, "cheap", how, 0);
        }
        says("cheap", "BAD.");
        bad("cheap", of(0, 0), NO_BIT, NO_BIT);
    }

    // ---- rays

    private static void rays() {
        says("rays", "How many RAYS there are.");
        asks(4, "rays");
        is(Asking.made(), 0, "rays");
        is(full(), 6, "rays");
        PairsStand zero = Asking.made();
        is(zero, 0, "pair", 0, 0);
        is(zero, 0, "rays");
    }

    private static void ray() {
        says("ray", "RAY k: its number 0 times q, and number 1, that times q, and number 2, .. .");
        long[] due = {11, 121, 1340, 1610};
        for (int k = 0; k < 4; k++) {
            asks(due[k], "ray", k);
        }
        PairsStand one = Asking.edges(97, 1, 0, 0);
        is(one, 1, "ray", 0);
        PairsStand great = Asking.field(97, 6);
        is(great, 0, "pair", 0, 0);
        Asking.rows(great, 0, new int[] {1, -1, -1, -1, -1, -1}, new int[] {0, 0, 0, 0, 0, 96});
        is(great, 1, "ray", 0);
        is(great, 17174680513L, "ray", 1);
        says("ray", "PLACE.");
        for (int k : new int[] {-1, 4, 5, 20, MIN, MAX}) {
            refuses(PLACE, "ray", k);
        }
        Asking.refuses(Asking::made, PLACE, "ray", 0);
        is(great, PLACE, "ray", 2);
    }

    private static void rayOf() {
        says("rayOf", "Which RAY the first ROW (row 0), second ROW (1) of a PAIR has.");
        int[][] due = {{1, 0}, {3, 3}, {1, 2}, {NONE, NONE}};
        for (int p = 0; p < 3; p++) {
            asks(due[p][0], "rayOf", p, 0);
            asks(due[p][1], "rayOf", p, 1);
        }
        is(full(), 2, "rayOf", 9, 1);
        says("rayOf", "BAD;");
        bad("rayOf", of(0, 0), NO_PAIR, NO_BIT);
        refuses(BAD, "rayOf", 3, 2);
        Asking.refuses(Asking::made, BAD, "rayOf", 0, 0);
        says("rayOf", "NONE: it is all 0.");
        refuses(NONE, "rayOf", 3, 0);
        refuses(NONE, "rayOf", 3, 1);
        PairsStand rest = Asking.field(7, 2);
        is(rest, 0, "pair", 0, 0);
        Asking.rows(rest, 0, new int[] {7, -14, 1}, new int[] {0, 6});
        is(rest, NONE, "rayOf", 0, 0);
        is(rest, 0, "rayOf", 0, 1);
    }

    // ---- nets

    private static void link() {
        says("link", "Two POINTS have a LINE (on 1), or none (0): as it was.");
        PairsStand x = rich();
        is(x, 0, "link", 7, 6, 1);
        is(x, 1, "link", 6, 7, 1);
        is(x, 4, "count", 4);
        is(x, 1, "link", 6, 7, 0);
        is(x, 0, "link", 7, 6, 0);
        is(x, 3, "count", 4);
        asks(1, "link", 3, 0, 1);
        asks(0, "link", 0, 7, 0);
        asks(0, "link", 4, 5, 0);
        says("link", "BAD: no such, one and the same, on;");
        bad("link", of(4, 5, 1), of(-1, 8, 5, MIN, MAX), of(-1, 8, 4, MIN, MAX), NO_BIT);
        bad("link", of(0, 1, 0), of(-1, 8, 1, MIN, MAX), of(-1, 8, 0, MIN, MAX), NO_BIT);
        refuses(BAD, "link", 0, 0, 1);
        refuses(BAD, "link", 0, 4, 2);
        refuses(BAD, "link", 8, 8, 1);
        says("link", "STATE: one has 3 others.");
        for (int b = 4; b < 8; b++) {
            refuses(STATE, "link", 0, b, 1);
            refuses(STATE, "link", b, 0, 1);
        }
        is(x, 1, "link", 0, 3, 0);
        is(x, 0, "link", 0, 7, 1);
        is(x, STATE, "link", 0, 3, 1);
        PairsStand both = Asking.net(0, 1, 0, 2, 0, 3, 4, 5, 4, 6, 4, 7);
        is(both, STATE, "link", 0, 4, 1);
        is(both, 0, "link", 1, 5, 1);
        is(both, 7, "count", 4);
    }

    private static void breaks() {
        says("breaks", "Whether a SET of POINTS BREAKS THE NET: 1, 0.");
        asks(1, "breaks", 0);
        PairsStand x = Asking.net(5, 6, 6, 7, 7, 5);
        for (int set = 0; set < 256; set++) {
            is(x, (set & bits(5, 6, 7)) == 0 ? 0 : 1, "breaks", set);
        }
        says("breaks", "BAD: not 0 .. 255.");
        bad("breaks", of(0), of(-1, 256, 511, MIN, MAX));
    }

    private static void feedback() {
        says("feedback", "The fewest POINTS of a SET that BREAKS it (what 0), the least number of such a SET (1), how many such SETS there are "
            + "(2).");
        int[][] due = {{0, 0, 1}, {1, 32, 3}, {2, 3, 6}, {4, 51, 36}, {3, 22, 32}};
        PairsStand[] nets = {Asking.made(), Asking.net(5, 6, 6, 7, 7, 5), Asking.net(0, 1, 0, 2, 0, 3, 1, 2, 1, 3, 2, 3),
            Asking.net(0, 1, 0, 2, 0, 3, 1, 2, 1, 3, 2, 3, 4, 5, 4, 6, 4, 7, 5, 6, 5, 7, 6, 7),
            Asking.net(0, 1, 2, 3, 4, 5, 6, 7, 0, 2, 1, 3, 4, 6, 5, 7, 0, 4, 1, 5, 2, 6, 3, 7)};
        for (int k = 0; k < due.length; k++) {
            for (int what = 0; what < 3; what++) {
                is(nets[k], due[k][what], "feedback", what);
            }
        }
        asks(0, "feedback", 0);
        asks(0, "feedback", 1);
        asks(1, "feedback", 2);
        says("feedback", "BAD.");
        bad("feedback", of(0), of(-1, 3, MIN, MAX));
    }

    // ---- hands

    private static void hold() {
        says("hold", "A HAND holds nothing (sort 0), PAIR k (1), RAY k (2): which sort it held.");
        PairsStand x = rich();
        for (int hand = 0; hand < 4; hand++) {
            is(x, new int[] {1, 2, 2, 0}[hand], "hold", hand, 0, MIN);
            is(x, 0, "hold", hand, 1, 3);
            is(x, 1, "hold", hand, 1, 0);
            is(x, 7, "asPair", hand, 0);
            is(x, 1, "hold", hand, 2, 3);
            is(x, 4, "asRay", hand, 3);
            is(x, 2, "hold", hand, 2, 0);
            is(x, 2, "hold", hand, 0, MAX);
            is(x, NOTHING, "asPair", hand, 0);
        }
        says("hold", "BAD: hand, sort, no such PAIR, no such RAY.");
        bad("hold", of(0, 0, 0), NO_FOUR, of(-1, 3, MIN, MAX), of());
        bad("hold", of(1, 1, 0), NO_FOUR, of(-1, 3, MIN, MAX), NO_PAIR);
        bad("hold", of(0, 2, 0), NO_FOUR, of(-1, 3, MIN, MAX), of(-1, 4, 5, 20, MIN, MAX));
        Asking.refuses(Asking::made, BAD, "hold", 0, 1, 0);
        Asking.refuses(Asking::made, BAD, "hold", 0, 2, 0);
    }

    private static void asPair() {
        says("asPair", "The PAIR that a HAND holds, taken for one of a KIND (also one under it): its WEIGHT.");
        asks(7, "asPair", 0, 0);
        asks(7, "asPair", 0, 2);
        asks(7, "asPair", 0, 4);
        PairsStand x = rich();
        is(x, 1, "hold", 0, 1, 3);
        is(x, 0, "asPair", 0, 0);
        says("asPair", "BAD;");
        bad("asPair", of(0, 0), NO_FOUR, of(-1, 6, MIN, MAX));
        bad("asPair", of(1, 0), NO_FOUR, of(-1, 6, MIN, MAX));
        bad("asPair", of(3, 0), NO_FOUR, of(-1, 6, MIN, MAX));
        says("asPair", "NOTHING;");
        refuses(NOTHING, "asPair", 3, 0);
        refuses(NOTHING, "asPair", 3, 5);
        says("asPair", "KIND: it holds another thing, or is of another KIND.");
        refuses(KIND, "asPair", 1, 0);
        for (int kind : new int[] {1, 3, 5}) {
            refuses(KIND, "asPair", 0, kind);
        }
        is(x, KIND, "asPair", 0, 1);
    }

    private static void asRay() {
        says("asRay", "Number i of the RAY that a HAND holds.");
        int[] due = {1, 0, 0, 9};
        for (int i = 0; i < 4; i++) {
            asks(i == 2 ? 1 : 0, "asRay", 1, i);
            asks(due[i], "asRay", 2, i);
        }
        says("asRay", "BAD: hand; NOTHING; KIND; PLACE: it has no such number.");
        bad("asRay", of(1, 0), NO_FOUR, of());
        bad("asRay", of(1, 9), NO_FOUR, of());
        for (int i : new int[] {-1, 4, 5, 6, MIN, MAX}) {
            refuses(NOTHING, "asRay", 3, i);
            refuses(KIND, "asRay", 0, i);
            refuses(PLACE, "asRay", 1, i);
            Asking.refuses(wide(6), PLACE, "asRay", 2, i);
        }
        refuses(NOTHING, "asRay", 3, 0);
        refuses(KIND, "asRay", 0, 0);
        Asking.refuses(wide(1), 9, "asRay", 2, 3);
    }

    private static void compare() {
        says("compare", "Two RAYS that HANDS hold: -1 the first one comes ahead in order, 1 behind, 0 they are alike (a number that lacks is "
            + "ahead of all).");
        asks(-1, "compare", 1, 2);
        asks(1, "compare", 2, 1);
        asks(0, "compare", 2, 2);
        PairsStand x = Asking.field(7, 1);
        is(x, 0, "pair", 5, 0);
        is(x, 0, "entry", 0, 0, 0, 3);
        for (int wide = 1; wide <= 6; wide++) {
            is(x, 7, "field", 7, wide);
            is(x, wide == 1 ? 0 : 2, "hold", 0, 2, 0);
            is(x, wide == 1 ? 0 : 2, "hold", 1, 2, 0);
            is(x, 0, "compare", 0, 1);
            is(x, 7, "field", 97, wide % 6 + 1);
            is(x, 2, "hold", 1, 2, 0);
            is(x, wide == 6 ? 1 : -1, "compare", 0, 1);
            is(x, wide == 6 ? -1 : 1, "compare", 1, 0);
            is(x, 97, "field", 7, 4);
        }
        is(x, 0, "entry", 0, 0, 5, 1);
        is(x, 7, "field", 7, 6);
        is(x, 2, "hold", 0, 2, 0);
        is(x, 1, "entry", 0, 0, 5, -1);
        is(x, 2, "hold", 1, 2, 0);
        is(x, 1, "compare", 0, 1);
        is(x, -1, "compare", 1, 0);
        says("compare", "BAD; NOTHING: one holds nothing; KIND.");
        bad("compare", of(1, 2), NO_FOUR, NO_FOUR);
        bad("compare", of(3, 3), NO_FOUR, NO_FOUR);
        for (int hand = 0; hand < 4; hand++) {
            refuses(NOTHING, "compare", hand, 3);
            refuses(NOTHING, "compare", 3, hand);
        }
        for (int hand = 0; hand < 3; hand++) {
            refuses(KIND, "compare", hand, 0);
            refuses(KIND, "compare", 0, hand);
        }
    }

    // ---- sheets, an image

    private static void sheet() {
        says("sheet", "A SHEET becomes a row of n of a sort, all 0, or missing (sort -1; n doesn't matter): 1.");
        for (int s = 0; s < 4; s++) {
            PairsStand x = rich();
            for (int n : new int[] {30, 29, 30}) {
                is(x, 1, "sheet", s, 1, n);
                for (int i = 0; i < n; i++) {
                    is(x, 0, "read", s, i);
                    is(x, 1, "cell", s, i, Long.MAX_VALUE);
                }
                is(x, PLACE, "read", s, n);
            }
            is(x, 1, "sheet", s, 0, 1);
            is(x, 0, "read", s, 0);
            is(x, MUCH, "cell", s, 0, Long.MAX_VALUE);
            is(x, 1, "sheet", s, 1, 0);
            is(x, PLACE, "read", s, 0);
            for (int n : new int[] {MIN, -1, 0, 30, 31, MAX}) {
                is(x, 1, "sheet", s, -1, n);
                is(x, NOTHING, "read", s, 0);
                is(x, 1, "sheet", s, 0, 0);
            }
            is(x, s == 0 ? PLACE : 5, "read", 0, 0);
        }
        says("sheet", "BAD: s, sort, n above 30;");
        bad("sheet", of(0, 0, 5), NO_FOUR, of(-2, 2, MIN, MAX), of(31, 32, MAX));
        bad("sheet", of(1, 1, 30), NO_FOUR, of(-2, 2, MIN, MAX), of(31, 32, MAX));
        bad("sheet", of(1, -1, -1), NO_FOUR, of(-2, 2, MIN, MAX), of());
        bad("sheet", of(1, 1, -1), NO_FOUR, of(-2, 2, MIN, MAX), of());
        says("sheet", "SIZE: n below 0.");
        for (int s = 0; s < 4; s++) {
            refuses(SIZE, "sheet", s, 0, -1);
            refuses(SIZE, "sheet", s, 1, -30);
            refuses(SIZE, "sheet", s, 1, MIN);
        }
    }

    private static void cell() {
        says("cell", "Place i of a SHEET becomes v: 1.");
        PairsStand x = rich();
        for (int i = 0; i < 3; i++) {
            for (long v : new long[] {MIN, MAX, -1, 0, 7}) {
                is(x, 1, "cell", 0, i, v);
                is(x, v, "read", 0, i);
            }
            for (long v : new long[] {Long.MIN_VALUE, Long.MAX_VALUE, MAX + 1L, MIN - 1L, 0}) {
                is(x, 1, "cell", 1, i, v);
                is(x, v, "read", 1, i);
            }
        }
        is(x, 8, "read", 0, 3);
        asks(1, "cell", 0, 12, 8L);
        says("cell", "BAD: s; NOTHING; PLACE;");
        bad("cell", of(0, 0, 1L), NO_FOUR, of(), of());
        bad("cell", of(0, 99, 1L << 40), NO_FOUR, of(), of());
        for (int i : new int[] {-1, 13, 30, MIN, MAX}) {
            refuses(NOTHING, "cell", 3, i, 1L << 40);
            refuses(PLACE, "cell", 0, i, 1L);
            refuses(PLACE, "cell", 0, i, 1L << 40);
        }
        refuses(NOTHING, "cell", 3, 0, 0L);
        refuses(PLACE, "cell", 1, 3, 0L);
        refuses(PLACE, "cell", 2, 0, 0L);
        says("cell", "MUCH: it is no int, and the row is one of ints.");
        for (long v : new long[] {MAX + 1L, MIN - 1L, 1L << 32, -1L << 32, Long.MIN_VALUE, Long.MAX_VALUE}) {
            refuses(MUCH, "cell", 0, 0, v);
            refuses(MUCH, "cell", 0, 12, v);
            is(x, 1, "cell", 1, 2, v);
        }
    }

    private static void read() {
        says("read", "Place i of a SHEET.");
        asks(5, "read", 0, 0);
        asks(-6, "read", 0, 1);
        asks(8, "read", 0, 12);
        asks(1L << 50, "read", 1, 0);
        says("read", "BAD: s; NOTHING; PLACE.");
        bad("read", of(0, 0), NO_FOUR, of());
        bad("read", of(0, -1), NO_FOUR, of());
        for (int i : new int[] {-1, 13, 30, MIN, MAX}) {
            refuses(NOTHING, "read", 3, i);
            refuses(PLACE, "read", 0, i);
        }
        refuses(NOTHING, "read", 3, 0);
        refuses(PLACE, "read", 1, 3);
        refuses(PLACE, "read", 2, 0);
    }

    private static void load() {
        says("load", "A and B of a PAIR become what 12 numbers of a SHEET tell from place from on, each by % 100 (as the host has it): 12.");
        PairsStand x = rich();
        for (int from = 0; from < 2; from++) {
            is(x, 12, "load", 0, 3, from);
            int[] ints = {5, -6, 7, 8, 9, 1, 2, 3, 4, 5, 6, 7, 8};
            for (int k = 0; k < 12; k++) {
                is(x, ints[from + k], "entry", 3, k / 6, k % 6, 0);
            }
        }
        long[] cells = {99, 100, 101, -99, -100, -101, 199, -199, Long.MAX_VALUE, Long.MIN_VALUE, MAX, MIN};
        int[] due = {99, 0, 1, -99, 0, -1, 99, -99, 7, -8, 47, -48};
        for (int from = 0; from <= 18; from += 9) {
            is(x, 1, "sheet", 3, 1, 30);
            for (int k = 0; k < 12; k++) {
                is(x, 1, "cell", 3, from + k, cells[k]);
            }
            is(x, 12, "load", 3, 1, from);
            for (int k = 0; k < 12; k++) {
                is(x, due[k], "entry", 1, k / 6, k % 6, 0);
            }
        }
        is(x, 7, "told", 0, 1);
        is(x, PLACE, "load", 3, 1, 19);
        says("load", "BAD: s, pair; NOTHING;");
        bad("load", of(0, 0, 0), NO_FOUR, NO_PAIR, of());
        bad("load", of(3, 0, -1), NO_FOUR, NO_PAIR, of());
        refuses(NOTHING, "load", 3, 0, 0);
        refuses(NOTHING, "load", 3, 0, MAX);
        says("load", "PLACE (nothing comes).");
        for (int from : new int[] {-1, 2, 12, 13, 30, MIN, MAX, MAX - 11}) {
            refuses(PLACE, "load", 0, 1, from);
        }
        refuses(PLACE, "load", 1, 1, 0);
        refuses(PLACE, "load", 2, 1, 0);
        PairsStand eleven = Asking.sheet(rich(), 0, 1, 1, 1, 1, 1, 1, 1, 1, 1, 1, 1, 1);
        is(eleven, PLACE, "load", 0, 0, 0);
        is(eleven, 1, "entry", 0, 0, 1, 0);
    }

    private static void image() {
        says("image", "AN IMAGE is kept: how many PAIRS.");
        is(Asking.made(), 0, "image");
        is(full(), 10, "image");
        PairsStand x = rich();
        is(x, 4, "image");
        Asking.same("the last one", Asking.image(x), Asking.image(imaged()));
        PairsStand y = rich();
        is(y, 4, "image");
        Asking.same("nothing else changes", Asking.now(y), Asking.now(rich()));
    }

    private static PairsStand imaged() {
        PairsStand x = rich();
        x.image();
        return x;
    }

    private static void back() {
        says("back", "All that it keeps is as in THE IMAGE: how many PAIRS.");
        PairsStand x = rich();
        is(x, 1, "back");
        int[] counts = {1, 5, 3, 1, 1};
        for (int what = 0; what < 5; what++) {
            is(x, counts[what], "count", what);
        }
        is(x, text("old"), "nameAt", 0);
        is(x, 1, "told", 0, 1);
        is(x, 1, "number", 0, 1, 2);
        is(x, 1, "link", 7, 6, 1);
        is(x, 0, "link", 0, 1, 1);
        is(x, 0, "drop");
        is(x, 1, "back");
        is(x, 0, "link", 0, 1, 0);
        is(x, 5, "read", 0, 0);
        is(x, 7, "asPair", 0, 4);
        PairsStand empty = Asking.made();
        is(empty, 0, "image");
        is(empty, 0, "pair", 0, 0);
        is(empty, 0, "link", 0, 1, 1);
        is(empty, 0, "back");
        is(empty, 0, "count", 0);
        is(empty, 0, "count", 4);
        says("back", "STATE: there is none.");
        Asking.refuses(EdgesTest::full, STATE, "back");
        Asking.refuses(Asking::made, STATE, "back");
    }

    private static void count() {
        says("count", "0 PAIRS, 1 PRIME, 2 WIDE, 3 NAMES, 4 LINES.");
        int[] due = {4, 11, 4, 2, 3};
        for (int what = 0; what < 5; what++) {
            asks(due[what], "count", what);
        }
        says("count", "BAD.");
        bad("count", of(0), of(-1, 5, MIN, MAX));
    }
}
