/** For each promise of the document: ordinary inputs, the edges it names, and wrong inputs; all due answers are by hand. */
public final class PromisesTest {
    private static final int NONE = -1, BAD = -2, STATE = -3, FULL = -4, MUCH = -5, NOTHING = -11, PLACE = -12, KIND = -13, SIZE = -14;
    private static final int MIN = Integer.MIN_VALUE, MAX = Integer.MAX_VALUE;
    private static int promise = 0, asked = 0, wrong = 0;

    private static void due(String call, long got, long want) {
        asked++;
        if (got != want) {
            wrong++;
            System.out.println("promise " + promise + ": " + call + " answered " + got + ", due is " + want);
        }
    }

    public static void main(String[] args) {
        Runnable[] all = {PromisesTest::newObject, PromisesTest::field, PromisesTest::divided, PromisesTest::pair,
            PromisesTest::entry, PromisesTest::set, PromisesTest::told, PromisesTest::number, PromisesTest::drop,
            PromisesTest::name, PromisesTest::named, PromisesTest::unname, PromisesTest::nameAt, PromisesTest::rank,
            PromisesTest::stands, PromisesTest::most, PromisesTest::best, PromisesTest::heavy, PromisesTest::queue,
            PromisesTest::greedy, PromisesTest::better, PromisesTest::table, PromisesTest::half, PromisesTest::root,
            PromisesTest::claim, PromisesTest::sure, PromisesTest::cover, PromisesTest::cheap, PromisesTest::rays,
            PromisesTest::ray, PromisesTest::rayOf, PromisesTest::link, PromisesTest::breaks, PromisesTest::feedback,
            PromisesTest::hold, PromisesTest::asPair, PromisesTest::asRay, PromisesTest::compare, PromisesTest::sheet,
            PromisesTest::cell, PromisesTest::read, PromisesTest::load, PromisesTest::image, PromisesTest::back,
            PromisesTest::count};
        for (Runnable one : all) {
            promise++;
            int before = asked;
            one.run();
            due("how many were asked", asked > before ? 1 : 0, 1);
        }
        System.out.println("promises: " + (wrong == 0 ? "all " + asked + " answers are as due" : wrong + " answers are not as due"));
        if (wrong != 0) {
            System.exit(1);
        }
    }

    // ---- what the tests are made of

    private static void rows(PairsStand x, int pair, int[] a, int[] b) {
        for (int i = 0; i < a.length; i++) {
            x.entry(pair, 0, i, a[i]);
        }
        for (int i = 0; i < b.length; i++) {
            x.entry(pair, 1, i, b[i]);
        }
    }

    /** A PAIR whose ROWS are 1 at one place, else 0. */
    private static int edge(PairsStand x, int i, int j, int weight) {
        int p = x.pair(0, weight);
        x.entry(p, 0, i, 1);
        x.entry(p, 1, j, 1);
        return p;
    }

    private static PairsStand edges(int prime, int wide, int... ends) {
        PairsStand x = new PairsStand();
        x.field(prime, wide);
        for (int k = 0; k < ends.length; k += 2) {
            edge(x, ends[k], ends[k + 1], 1);
        }
        return x;
    }

    private static PairsStand four() {
        return edges(7, 4, 0, 1, 2, 3, 0, 2, 1, 3);
    }

    /** Ten PAIRS; the only three that stand together are 3, 8, 9 and 4, 7, 9. */
    private static PairsStand ten() {
        return edges(97, 6, 0, 1, 0, 2, 0, 3, 0, 4, 0, 5, 1, 2, 1, 3, 1, 4, 1, 5, 2, 3);
    }

    private static void sheetOf(PairsStand x, int s, int sort, long... cells) {
        x.sheet(s, sort, cells.length);
        for (int i = 0; i < cells.length; i++) {
            x.cell(s, i, cells[i]);
        }
    }

    private static long text(String letters) {
        long v = 0;
        for (int i = 0; i < 8; i++) {
            v = v << 8 | (i < letters.length() ? letters.charAt(i) : 0);
        }
        return v;
    }

    private static PairsStand pairsNamed(String... names) {
        PairsStand x = new PairsStand();
        for (String name : names) {
            int p = x.pair(0, 0);
            if (!name.isEmpty()) {
                due("name " + name, x.name(p, text(name)), 1);
            }
        }
        return x;
    }

    private static boolean isPrime(int v) {
        boolean prime = v > 1;
        for (int d = 2; d < v; d++) {
            prime &= v % d != 0;
        }
        return prime;
    }

    private static int bits(int... places) {
        int set = 0;
        for (int p : places) {
            set |= 1 << p;
        }
        return set;
    }

    // ---- numbers, pairs

    private static void newObject() {
        PairsStand x = new PairsStand();
        due("count(0)", x.count(0), 0);
        due("count(1)", x.count(1), 7);
        due("count(2)", x.count(2), 4);
        due("count(3)", x.count(3), 0);
        due("count(4)", x.count(4), 0);
        due("back()", x.back(), STATE);
        for (int k = 0; k < 4; k++) {
            due("read", x.read(k, 0), NOTHING);
            due("asRay", x.asRay(k, 0), NOTHING);
        }
        x.pair(0, 1);
        due("another object's count(0)", new PairsStand().count(0), 0);
    }

    private static void field() {
        PairsStand x = new PairsStand();
        int was = 7;
        for (int v = -5; v <= 200; v++) {
            boolean fits = v <= 97 && isPrime(v);
            due("field " + v, x.field(v, 4), fits ? was : BAD);
            was = fits ? v : was;
            due("count(1)", x.count(1), was);
        }
        for (int wide = -1; wide <= 8; wide++) {
            boolean fits = wide >= 1 && wide <= 6;
            int before = x.count(2);
            due("field wide " + wide, x.field(5, wide), fits ? x.count(1) == 5 && wide > 1 ? 5 : 97 : BAD);
            due("count(2)", x.count(2), fits ? wide : before);
        }
        due("field(MIN, 4)", x.field(MIN, 4), BAD);
        due("field(MAX, 4)", x.field(MAX, 4), BAD);
        due("field(7, MIN)", x.field(7, MIN), BAD);
        due("field(7, MAX)", x.field(7, MAX), BAD);
        due("count(1) unchanged", x.count(1), 5);
        due("count(2) unchanged", x.count(2), 6);
        x.pair(0, 3);
        x.entry(0, 0, 5, -1);
        due("number by 5", x.number(0, 0, 5), 4);
        x.field(97, 2);
        x.field(97, 6);
        due("pairs stay", x.number(0, 0, 5), 96);
        due("pairs stay", x.count(0), 1);
    }

    private static void divided() {
        for (int q = 2; q <= 97; q++) {
            if (!isPrime(q)) {
                continue;
            }
            for (int a = -100; a <= 100; a += 7) {
                PairsStand x = new PairsStand();
                x.field(q, 4);
                for (int b = -100; b <= 100; b++) {
                    int got = x.divided(a, b);
                    if (b % q == 0) {
                        due("divided by rest 0", got, BAD);
                    } else {
                        due("divided " + a + " " + b, got >= 0 && got < q && (got * b - a) % q == 0 ? 1 : 0, 1);
                    }
                }
            }
        }
        PairsStand x = new PairsStand();
        due("divided(MAX, MIN)", x.divided(MAX, MIN), 3);
        due("divided(MIN, MAX)", x.divided(MIN, MAX), 5);
        due("divided(0, 3)", x.divided(0, 3), 0);
        due("divided(3, 0)", x.divided(3, 0), BAD);
    }

    private static void pair() {
        PairsStand x = new PairsStand();
        due("kind -1", x.pair(-1, 0), BAD);
        due("kind 6", x.pair(6, 0), BAD);
        due("weight -1", x.pair(0, -1), BAD);
        due("weight 1000", x.pair(0, 1000), BAD);
        due("none came", x.count(0), 0);
        for (int p = 0; p < 10; p++) {
            due("pair", x.pair(p % 6, p == 0 ? 999 : 0), p);
            due("told 0", x.told(p, 0), p % 6);
            due("told 1", x.told(p, 1), p == 0 ? 999 : 0);
            due("told 3", x.told(p, 3), NONE);
            due("number", x.number(p, 1, 3), 0);
        }
        due("pair 11", x.pair(0, 0), FULL);
        due("BAD is first", x.pair(6, 0), BAD);
        due("BAD is first", x.pair(0, 1000), BAD);
        due("count", x.count(0), 10);
    }

    private static void entry() {
        PairsStand x = new PairsStand();
        x.pair(0, 0);
        x.pair(0, 0);
        x.field(97, 6);
        for (int which = 0; which < 2; which++) {
            for (int i = 0; i < 6; i++) {
                due("entry", x.entry(1, which, i, 10 * which + i + 1), 0);
            }
        }
        for (int which = 0; which < 2; which++) {
            for (int i = 0; i < 6; i++) {
                due("number", x.number(1, which, i), 10 * which + i + 1);
                due("other pair", x.number(0, which, i), 0);
                due("entry again", x.entry(1, which, i, -99), 10 * which + i + 1);
                due("entry 99", x.entry(1, which, i, 99), -99);
                due("entry 100", x.entry(1, which, i, 100), BAD);
                due("entry -100", x.entry(1, which, i, -100), BAD);
                due("unchanged", x.entry(1, which, i, 0), 99);
            }
        }
        due("pair -1", x.entry(-1, 0, 0, 0), BAD);
        due("pair 2", x.entry(2, 0, 0, 0), BAD);
        due("which -1", x.entry(0, -1, 0, 0), BAD);
        due("which 2", x.entry(0, 2, 0, 0), BAD);
        due("i -1", x.entry(0, 0, -1, 0), BAD);
        due("i 6", x.entry(0, 0, 6, 0), BAD);
        due("v MIN", x.entry(0, 0, 0, MIN), BAD);
        due("v MAX", x.entry(0, 0, 0, MAX), BAD);
        x.field(97, 2);
        due("beyond WIDE", x.entry(0, 0, 5, 8), 0);
        x.field(97, 6);
        due("beyond WIDE, seen", x.number(0, 0, 5), 8);
    }

    private static void set() {
        PairsStand x = new PairsStand();
        due("no pair", x.set(0, 0, 0), BAD);
        x.pair(2, 30);
        due("kind", x.set(0, 0, 5), 2);
        due("kind", x.set(0, 0, 0), 5);
        due("kind 6", x.set(0, 0, 6), BAD);
        due("kind -1", x.set(0, 0, -1), BAD);
        due("weight", x.set(0, 1, 999), 30);
        due("weight", x.set(0, 1, 0), 999);
        due("weight 1000", x.set(0, 1, 1000), BAD);
        due("weight -1", x.set(0, 1, -1), BAD);
        due("what 2", x.set(0, 2, 0), BAD);
        due("what -1", x.set(0, -1, 0), BAD);
        due("pair 1", x.set(1, 0, 0), BAD);
        due("pair -1", x.set(-1, 1, 0), BAD);
        due("told kind", x.told(0, 0), 0);
        due("told weight", x.told(0, 1), 0);
    }

    private static void told() {
        PairsStand x = pairsNamed("b", "", "ab", "a");
        x.set(1, 0, 5);
        x.set(1, 1, 40);
        due("kind", x.told(1, 0), 5);
        due("weight", x.told(1, 1), 40);
        due("queue", x.told(1, 2), 0);
        due("queue", x.told(0, 2), 1);
        due("queue", x.told(3, 2), 3);
        due("names", x.told(0, 3), 2);
        due("names", x.told(1, 3), NONE);
        due("names", x.told(2, 3), 1);
        due("names", x.told(3, 3), 0);
        due("rank 0", x.told(1, 4), 0);
        rows(x, 1, new int[] {1, 2}, new int[] {0, 1});
        due("rank of FLAT", x.told(1, 4), 1);
        x.set(1, 0, 0);
        due("rank of PAIR", x.told(1, 4), 2);
        due("what 5", x.told(1, 5), BAD);
        due("what -1", x.told(1, -1), BAD);
        due("pair 4", x.told(4, 0), BAD);
        due("pair -1", x.told(-1, 3), BAD);
        due("of ten, queue", ten().told(9, 2), 9);
        due("of ten, rank", ten().told(9, 4), 2);
    }

    private static void number() {
        int[][] first = {{1, 2, 3, 4, 5, 6}, {1, 2, 3, 4, 5, 6}, {10, 20, 30, 40, 50, 60}, {1, 2, 3, 4, 5, 6},
            {0, 20, 30, 40, 50, 60}, {1, 2, 3, 4, 5, 6}};
        int[][] second = {{10, 20, 30, 40, 50, 60}, {11, 22, 33, 44, 55, 66}, {1, 2, 3, 4, 5, 6},
            {12, 24, 36, 48, 60, 72}, {1, 2, 3, 4, 5, 6}, {1, 2, 3, 4, 5, 6}};
        PairsStand x = new PairsStand();
        x.field(97, 6);
        for (int kind = 0; kind < 6; kind++) {
            x.pair(kind, 0);
            rows(x, kind, new int[] {1, 2, 3, 4, 5, 6}, new int[] {10, 20, 30, 40, 50, 60});
            for (int i = 0; i < 6; i++) {
                due("first of " + kind, x.number(kind, 0, i), first[kind][i]);
                due("second of " + kind, x.number(kind, 1, i), second[kind][i]);
            }
        }
        x.field(7, 4);
        due("i WIDE", x.number(0, 0, 4), BAD);
        due("i -1", x.number(0, 0, -1), BAD);
        due("row 2", x.number(0, 2, 0), BAD);
        due("row -1", x.number(0, -1, 0), BAD);
        due("pair 6", x.number(6, 0, 0), BAD);
        due("pair -1", x.number(-1, 0, 0), BAD);
        due("rest", x.number(1, 1, 3), 2);
        x.entry(3, 0, 0, -99);
        x.entry(3, 1, 0, -99);
        due("rest of what is below 0", x.number(3, 0, 0), 6);
        due("rest of -297", x.number(3, 1, 0), 4);
        due("of ten", ten().number(9, 1, 3), 1);
    }

    private static void drop() {
        PairsStand x = pairsNamed("a", "b");
        rows(x, 1, new int[] {1, 2, 3, 4, 5, 6}, new int[] {1, 2, 3, 4, 5, 6});
        due("drop", x.drop(), 1);
        due("its name is no more", x.named(text("b")), NONE);
        due("names", x.count(3), 1);
        due("it is no more", x.told(1, 0), BAD);
        due("a new one", x.pair(0, 0), 1);
        due("has no name", x.told(1, 3), NONE);
        for (int i = 0; i < 6; i++) {
            due("its A", x.entry(1, 0, i, 0), 0);
            due("its B", x.entry(1, 1, i, 0), 0);
        }
        due("drop", x.drop(), 1);
        due("drop", x.drop(), 0);
        due("drop", x.drop(), STATE);
        due("count", x.count(0), 0);
    }

    // ---- names

    private static void name() {
        PairsStand x = pairsNamed("a", "", "");
        String[] good = {"z", "az", "abcdefg", "zzzzzzz", "aa"};
        for (String one : good) {
            due("name " + one, x.name(1, text(one)), 1);
            due("named " + one, x.named(text(one)), 1);
            due("count", x.count(3), 2);
        }
        long[] bad = {0, 1, -1, text("abcdefgh"), text("A"), text("a`"), text("a{"), text("a b"), text("a") + 1,
            text("a\0b"), text("\0a"), text("abc") >> 8, text("a\u00e1"), Long.MIN_VALUE, Long.MAX_VALUE};
        for (long one : bad) {
            due("no name " + one, x.name(1, one), BAD);
        }
        due("still", x.named(text("aa")), 1);
        due("pair 3", x.name(3, text("b")), BAD);
        due("pair -1", x.name(-1, text("b")), BAD);
        due("BAD is first", x.name(3, text("a")), BAD);
        due("another has it", x.name(1, text("a")), STATE);
        due("still", x.named(text("aa")), 1);
        due("itself has it", x.name(1, text("aa")), 1);
        due("free again", x.name(0, text("b")), 1);
        due("then another may", x.name(1, text("a")), 1);
        due("it lost the one it had", x.named(text("aa")), NONE);
        PairsStand ten = pairsNamed("j", "i", "h", "g", "f", "e", "d", "c", "b", "a");
        due("of ten", ten.name(9, text("j")), STATE);
        due("of ten", ten.count(3), 10);
    }

    private static void named() {
        PairsStand x = pairsNamed("a", "", "abcdefg");
        due("a", x.named(text("a")), 0);
        due("abcdefg", x.named(text("abcdefg")), 2);
        due("abcdef", x.named(text("abcdef")), NONE);
        due("none", x.named(0), BAD);
        due("8 letters", x.named(text("abcdefgh")), BAD);
        due("a gap", x.named(text("a\0a")), BAD);
        due("below 0", x.named(Long.MIN_VALUE), BAD);
        due("without pairs", new PairsStand().named(text("a")), NONE);
        PairsStand ten = pairsNamed("j", "i", "h", "g", "f", "e", "d", "c", "b", "a");
        due("of ten", ten.named(text("a")), 9);
        due("of ten", ten.named(text("k")), NONE);
    }

    private static void unname() {
        PairsStand x = pairsNamed("a", "");
        due("pair 2", x.unname(2), BAD);
        due("pair -1", x.unname(-1), BAD);
        due("had none", x.unname(1), 0);
        due("had one", x.unname(0), 1);
        due("had none", x.unname(0), 0);
        due("named", x.named(text("a")), NONE);
        due("told", x.told(0, 3), NONE);
        due("free", x.name(1, text("a")), 1);
    }

    private static void nameAt() {
        PairsStand x = pairsNamed("b", "ab", "", "a", "abc", "zzzzzzz", "aaaaaaa");
        String[] inOrder = {"a", "aaaaaaa", "ab", "abc", "b", "zzzzzzz"};
        for (int k = 0; k < inOrder.length; k++) {
            due("nameAt " + k, x.nameAt(k), text(inOrder[k]));
        }
        due("nameAt(6)", x.nameAt(6), PLACE);
        due("nameAt(-1)", x.nameAt(-1), PLACE);
        due("nameAt(MIN)", x.nameAt(MIN), PLACE);
        due("nameAt(MAX)", x.nameAt(MAX), PLACE);
        PairsStand ten = pairsNamed("j", "i", "h", "g", "f", "e", "d", "c", "b", "a");
        due("of ten", ten.nameAt(9), text("j"));
        due("of ten", ten.nameAt(0), text("a"));
        due("of ten", ten.nameAt(10), PLACE);
    }

    // ---- what stands

    private static void rank() {
        PairsStand x = new PairsStand();
        due("empty", x.rank(0), 0);
        due("1 of none", x.rank(1), BAD);
        x.pair(0, 0);
        rows(x, 0, new int[] {1, 1, 0, 0}, new int[] {1, 8, 0, 0});
        due("by 7", x.rank(1), 1);
        x.field(11, 4);
        due("by 11", x.rank(1), 2);
        x.pair(0, 0);
        rows(x, 1, new int[] {0, 0, 3, 5}, new int[] {4, 4, 6, 10});
        due("both", x.rank(3), 3);
        due("second", x.rank(2), 2);
        x.field(11, 2);
        due("the first WIDE count", x.rank(3), 2);
        due("the first WIDE count", x.rank(2), 1);
        due("beyond", x.rank(4), BAD);
        due("-1", x.rank(-1), BAD);
        due("MIN", x.rank(MIN), BAD);
        due("MAX", x.rank(MAX), BAD);
        PairsStand full = edges(2, 6, 0, 1, 2, 3, 4, 5, 1, 2, 3, 4, 5, 0, 0, 3, 1, 4, 2, 5, 0, 2);
        due("ten pairs", full.rank(1023), 6);
        due("three", full.rank(bits(3, 9)), 3);
        due("beyond ten", full.rank(1024), BAD);
        PairsStand first = new PairsStand();
        first.pair(0, 0);
        rows(first, 0, new int[] {0, 0, 0, 5}, new int[] {0, 0, 0, 3});
        due("only the last place", first.rank(1), 1);
    }

    private static void stands() {
        PairsStand x = four();
        due("empty", x.stands(0), 1);
        for (int set = 1; set < 16; set++) {
            boolean fits = Integer.bitCount(set) == 1 || set == 3 || set == 12;
            due("stands " + set, x.stands(set), fits ? 1 : 0);
        }
        due("16", x.stands(16), BAD);
        due("-1", x.stands(-1), BAD);
        x.set(0, 0, 5);
        due("FLAT", x.stands(1), 0);
        PairsStand narrow = edges(7, 1, 0, 1);
        due("too narrow", narrow.stands(1), 0);
        due("empty", narrow.stands(0), 1);
        due("of ten", ten().stands(bits(3, 8, 9)), 1);
        due("of ten", ten().stands(bits(3, 7, 9)), 0);
        due("of ten", ten().stands(1023), 0);
        due("of ten", ten().stands(1024), BAD);
    }

    private static void most() {
        due("none", new PairsStand().most(), 0);
        due("four", four().most(), 2);
        due("wide 1", edges(7, 1, 0, 1, 2, 3).most(), 0);
        due("wide 3", edges(7, 3, 0, 1, 1, 2, 0, 2).most(), 1);
        due("wide 6", edges(7, 6, 0, 1, 1, 2, 2, 3, 4, 5).most(), 3);
        due("a triangle", edges(7, 6, 0, 1, 1, 2, 0, 2, 3, 4, 4, 5, 3, 5).most(), 2);
        PairsStand x = four();
        x.set(1, 0, 5);
        x.set(3, 0, 5);
        due("FLAT ones", x.most(), 1);
        due("of ten", ten().most(), 3);
        due("all stand", edges(7, 6, 0, 1, 2, 3, 4, 5).most(), 3);
        due("one stands", edges(7, 2, 0, 1).most(), 1);
    }

    private static void best() {
        PairsStand x = four();
        edge(x, 0, 3, 1);
        due("BEST", x.best(0), 3);
        due("sets", x.best(1), 2);
        due("in each", x.best(2), 0);
        due("in any", x.best(3), 15);
        due("4", x.best(4), BAD);
        due("-1", x.best(-1), BAD);
        x.set(0, 0, 5);
        due("BEST", x.best(0), 12);
        due("sets", x.best(1), 1);
        due("in each", x.best(2), 12);
        due("in any", x.best(3), 12);
        PairsStand star = edges(7, 6, 0, 1, 2, 3, 2, 4, 2, 5);
        due("BEST", star.best(0), 3);
        due("sets", star.best(1), 3);
        due("in each", star.best(2), 1);
        due("in any", star.best(3), 15);
        PairsStand flat = new PairsStand();
        flat.pair(0, 1);
        due("none stands: BEST", flat.best(0), 0);
        due("none stands: sets", flat.best(1), 1);
        due("none stands: in each", flat.best(2), 0);
        due("none stands: in any", flat.best(3), 0);
        PairsStand all = edges(7, 6, 0, 1, 2, 3, 4, 5);
        due("all stand: BEST", all.best(0), 7);
        due("all stand: sets", all.best(1), 1);
        due("all stand: in each", all.best(2), 7);
        due("all stand: in any", all.best(3), 7);
        due("of ten: BEST", ten().best(0), bits(4, 7, 9));
        due("of ten: sets", ten().best(1), 2);
        due("of ten: in each", ten().best(2), bits(9));
        due("of ten: in any", ten().best(3), bits(3, 4, 7, 8, 9));
    }

    private static PairsStand weighted(int... weights) {
        PairsStand x = four();
        edge(x, 0, 3, 1);
        for (int p = 0; p < weights.length; p++) {
            x.set(p, 1, weights[p]);
        }
        return x;
    }

    private static void heavy() {
        PairsStand x = weighted(1, 1, 5, 0, 999);
        due("HEAVY", x.heavy(0), 16);
        due("weight", x.heavy(1), 999);
        x.set(4, 1, 5);
        due("the least of like ones", x.heavy(0), 4);
        due("weight", x.heavy(1), 5);
        x.set(3, 1, 1);
        due("two", x.heavy(0), 12);
        due("weight", x.heavy(1), 6);
        due("all weigh 0", weighted(0, 0, 0, 0, 0).heavy(0), 0);
        due("all weigh 0", weighted(0, 0, 0, 0, 0).heavy(1), 0);
        due("of ten", ten().heavy(0), bits(4, 7, 9));
        due("all stand", edges(7, 6, 0, 1, 2, 3, 4, 5).heavy(0), 7);
        due("all stand", edges(7, 6, 0, 1, 2, 3, 4, 5).heavy(1), 3);
        PairsStand ten = ten();
        ten.set(8, 1, 2);
        due("of ten", ten.heavy(0), bits(3, 8, 9));
        due("of ten", ten.heavy(1), 4);
        due("2", x.heavy(2), BAD);
        due("-1", x.heavy(-1), BAD);
    }

    private static void queue() {
        PairsStand x = new PairsStand();
        int[][] kindsAndWeights = {{3, 5}, {0, 5}, {0, 999}, {3, 5}, {1, 5}, {5, 0}, {0, 0}};
        int[] inOrder = {2, 1, 4, 0, 3, 6, 5};
        for (int[] one : kindsAndWeights) {
            x.pair(one[0], one[1]);
        }
        for (int k = 0; k < inOrder.length; k++) {
            due("queue " + k, x.queue(k), inOrder[k]);
            due("told " + k, x.told(inOrder[k], 2), k);
        }
        due("queue(7)", x.queue(7), PLACE);
        due("queue(-1)", x.queue(-1), PLACE);
        due("queue(MAX)", x.queue(MAX), PLACE);
        due("of ten", ten().queue(9), 9);
        due("of ten", ten().queue(10), PLACE);
    }

    private static void greedy() {
        PairsStand x = weighted(6, 6, 1, 1, 10);
        due("GREEDY", x.greedy(0), 16);
        due("weight", x.greedy(1), 10);
        due("HEAVY is more", x.heavy(1), 12);
        x.set(4, 1, 6);
        due("by number", x.greedy(0), 3);
        x.set(0, 0, 1);
        x.set(1, 0, 1);
        due("by kind", x.greedy(0), 16);
        x.set(4, 0, 5);
        due("what doesn't stand is passed over", x.greedy(0), 3);
        due("weight", x.greedy(1), 12);
        due("those of no weight come too", weighted(0, 0, 0, 0, 0).greedy(0), 3);
        due("of ten", ten().greedy(0), bits(0, 9));
        due("of ten", ten().greedy(1), 2);
        due("2", x.greedy(2), BAD);
        due("-1", x.greedy(-1), BAD);
    }

    private static void better() {
        PairsStand x = weighted(1, 1, 1, 1, 1);
        due("from none", x.better(0), 3);
        due("one more", x.better(4), 12);
        due("two for one", x.better(16), 3);
        due("no better", x.better(12), 12);
        due("doesn't stand", x.better(17), STATE);
        due("beyond", x.better(32), BAD);
        due("-1", x.better(-1), BAD);
        PairsStand y = edges(7, 6, 0, 1, 2, 3, 0, 4, 1, 5, 2, 4, 3, 5, 0, 5, 1, 4);
        due("by x", y.better(3), bits(1, 2, 3));
        PairsStand z = edges(7, 6, 0, 1, 2, 3, 2, 4, 3, 5, 0, 5, 1, 4, 0, 4, 1, 5);
        due("by x, then a", z.better(3), bits(1, 4, 5));
        PairsStand b = edges(7, 6, 0, 1, 2, 3, 0, 4, 1, 2, 1, 5, 1, 5);
        due("by b", b.better(3), bits(1, 2, 4));
        PairsStand last = edges(7, 6, 0, 1, 2, 3, 4, 2, 3, 5);
        due("the last one leaves", last.better(3), bits(0, 2, 3));
        PairsStand one = edges(7, 6, 2, 3, 2, 4, 3, 5, 0, 1);
        due("one more is ahead of two for one", one.better(1), bits(1, 2, 3));
        PairsStand star = edges(7, 4, 0, 1, 0, 2, 0, 3);
        for (int p = 0; p < 3; p++) {
            due("one for one is no better", star.better(1 << p), 1 << p);
        }
        PairsStand all = edges(7, 6, 0, 1, 2, 3, 4, 5);
        due("all come", all.better(0), 7);
        due("all come", all.better(bits(1)), 7);
        due("all are there", all.better(7), 7);
        due("of ten", ten().better(bits(0, 9)), bits(3, 8, 9));
        due("of ten", ten().better(0), bits(3, 8, 9));
        due("of ten", ten().better(bits(4, 7, 9)), bits(4, 7, 9));
        due("of ten", ten().better(1024), BAD);
    }

    // ---- tables

    private static void table() {
        PairsStand x = edges(7, 4, 0, 1);
        x.pair(0, 0);
        rows(x, 1, new int[] {1, 2, 3, 0}, new int[] {4, 5, 6, 0});
        sheetOf(x, 2, 1, 5, -2, 99);
        int[][] want = {{0, 4, 5, 0}, {3, 0, 6, 0}, {2, 1, 0, 0}, {0, 0, 0, 0}};
        for (int i = 0; i < 4; i++) {
            for (int j = 0; j < 4; j++) {
                due("table " + i + " " + j, x.table(2, i, j), want[i][j]);
            }
        }
        sheetOf(x, 0, 0, 5);
        due("0 for those that lack", x.table(0, 0, 1), 5);
        due("0 for those that lack", x.table(0, 0, 2), 0);
        sheetOf(x, 0, 0);
        due("an empty sheet", x.table(0, 0, 1), 0);
        sheetOf(x, 1, 1, Long.MIN_VALUE, 0);
        due("the least long", x.table(1, 0, 1), 6);
        sheetOf(x, 1, 1, Long.MAX_VALUE, 0);
        due("the greatest long", x.table(1, 1, 0), 0);
        due("missing", x.table(3, 0, 0), NOTHING);
        due("BAD is first", x.table(3, 4, 0), BAD);
        int[][] bad = {{-1, 0, 0}, {4, 0, 0}, {2, -1, 0}, {2, 4, 0}, {2, 0, -1}, {2, 0, 4}};
        for (int[] one : bad) {
            due("wrong", x.table(one[0], one[1], one[2]), BAD);
        }
        due("without pairs", withSheet(7, 4, 3).table(0, 1, 2), 0);
        PairsStand ten = ten();
        sheetOf(ten, 0, 0, 1, 2, 3, 4, 5, 6, 7, 8, 9, -10);
        due("of ten", ten.table(0, 2, 3), 87);
        due("of ten", ten.table(0, 5, 1), 88);
        due("of ten", ten.table(0, 5, 4), 0);
    }

    private static PairsStand withSheet(int prime, int wide, long... cells) {
        PairsStand x = new PairsStand();
        x.field(prime, wide);
        sheetOf(x, 0, 1, cells);
        return x;
    }

    private static void half() {
        PairsStand x = edges(7, 4, 0, 1, 2, 3);
        long[][] cells = {{1, 1}, {1, 0}, {0, 0}, {7, 1}, {-7, 14}, {3}, {}, {Long.MAX_VALUE, 1}, {Long.MIN_VALUE, 1}};
        int[] want = {2, 1, 0, 1, 0, 1, 0, 1, 2};
        for (int k = 0; k < want.length; k++) {
            sheetOf(x, 1, 1, cells[k]);
            due("half " + k, x.half(1), want[k]);
        }
        due("missing", x.half(0), NOTHING);
        due("-1", x.half(-1), BAD);
        due("4", x.half(4), BAD);
        PairsStand k4 = edges(2, 4, 0, 1, 0, 2, 0, 3, 1, 2, 1, 3, 2, 3);
        sheetOf(k4, 0, 0, 1, 1, 1, 1, 1, 1);
        due("by 2", k4.half(0), 2);
        sheetOf(k4, 0, 0, 1, 1, 0, 1, 0, 0);
        due("three places alone", k4.half(0), 1);
        sheetOf(k4, 0, 0, 1, 1, 0, 0, 1, 1);
        due("a ring by 2", k4.half(0), 1);
        k4.field(3, 4);
        sheetOf(k4, 0, 0, 1, 1, 0, 0, 1, -1);
        due("by 3", k4.half(0), 2);
        PairsStand ten = ten();
        sheetOf(ten, 0, 0, 1, 1, 1, 1, 1, 1, 1, 1, 1, 1);
        due("of ten", ten.half(0), 2);
        ten.cell(0, 8, 2);
        due("of ten", ten.half(0), 3);
    }

    private static void root() {
        PairsStand x = edges(97, 4, 0, 1, 0, 2, 0, 3, 1, 2, 1, 3, 2, 3);
        sheetOf(x, 0, 1, 1, 2, 3, 4, 5, 6);
        due("root", x.root(0), 8);
        long[][] cells = {{MIN, MIN, MAX, 1, MAX, MIN}, {MIN, MIN, MIN, -1, MAX, MIN}, {MIN, MIN, MIN, 1, MIN, MAX},
            {MIN, MIN, 3, -715827883, MIN, MAX}, {1L << 31, 0, 0, 0, 0, 0}, {0, 0, 0, 0, 0, MIN - 1L}, {MAX, 0, 0, 0, 0, 1}};
        long[] want = {Long.MAX_VALUE, MUCH, Long.MIN_VALUE, MUCH, MUCH, MUCH, MAX};
        for (int k = 0; k < want.length; k++) {
            sheetOf(x, 0, 1, cells[k]);
            due("edge " + k, x.root(0), want[k]);
        }
        rootOfSums();
        rootOfSix();
        sheetOf(x, 0, 0, 5);
        due("those that lack are 0", x.root(0), 0);
        x.field(97, 3);
        due("odd", x.root(0), STATE);
        due("missing is ahead of odd", x.root(1), NOTHING);
        due("-1", x.root(-1), BAD);
        due("4", x.root(4), BAD);
        due("without pairs", withSheet(7, 6, 3).root(0), 0);
        PairsStand ten = ten();
        sheetOf(ten, 0, 0, 1, 1, 1, 1, 1, 1, 1, 1, 2, 1);
        due("of ten", ten.root(0), -1);
        ten.cell(0, 8, 1);
        due("of ten", ten.root(0), 0);
    }

    /** Sums and products on the way to a number of the TABLE. */
    private static void rootOfSums() {
        PairsStand x = edges(97, 2, 0, 1, 0, 1, 1, 0);
        long[][] cells = {{1L << 31, -1, 0}, {Long.MIN_VALUE, Long.MAX_VALUE, 0}, {Long.MAX_VALUE, 1, 1},
            {Long.MIN_VALUE, -1, -1}, {Long.MAX_VALUE, Long.MIN_VALUE, Long.MIN_VALUE}, {-1, 0, Long.MAX_VALUE},
            {0, Long.MAX_VALUE, Long.MAX_VALUE}, {MAX, 0, 0}, {MIN, 0, 0}, {0, 0, MIN}, {Long.MAX_VALUE, 0, Long.MIN_VALUE}};
        long[] want = {MAX, -1, MUCH, MUCH, MUCH, MUCH, 0, MAX, MIN, MUCH, MUCH};
        for (int k = 0; k < want.length; k++) {
            sheetOf(x, 3, 1, cells[k]);
            due("sum " + k, x.root(3), want[k]);
        }
        PairsStand y = edges(97, 2, 0, 1, 0, 1);
        y.entry(0, 0, 0, 2);
        sheetOf(y, 0, 1, 1L << 62, 0);
        due("a product beyond 64 bits", y.root(0), MUCH);
        sheetOf(y, 0, 1, -1L << 62, Long.MAX_VALUE);
        due("a product of 64 bits", y.root(0), -1);
        y.entry(0, 0, 0, -1);
        sheetOf(y, 0, 1, 3);
        due("by rests in the rows alone", y.root(0), 288);
    }

    private static void rootOfSix() {
        PairsStand x = edges(97, 6, 0, 1, 2, 3, 4, 5);
        long[][] cells = {{2, 3, 5}, {1 << 22, 1 << 20, 1 << 20}, {1 << 23, 1 << 20, 1 << 20}, {-(1 << 23), 1 << 20, 1 << 20}};
        long[] want = {30, 1L << 62, MUCH, Long.MIN_VALUE};
        for (int k = 0; k < want.length; k++) {
            sheetOf(x, 0, 0, cells[k]);
            due("six " + k, x.root(0), want[k]);
        }
        int[][] ends = {{0, 2, 1, 3, 4, 5}, {0, 3, 1, 2, 4, 5}, {0, 4, 1, 2, 3, 5}, {0, 5, 1, 2, 3, 4}, {0, 5, 1, 3, 2, 4}};
        long[] signed = {-1, 1, -1, 1, -1};
        for (int k = 0; k < signed.length; k++) {
            PairsStand y = edges(7, 6, ends[k]);
            sheetOf(y, 0, 0, 1, 1, 1);
            due("sign " + k, y.root(0), signed[k]);
        }
        PairsStand z = edges(97, 6, 2, 3, 2, 4, 2, 5, 3, 4, 3, 5, 4, 5);
        sheetOf(z, 0, 0, MIN, MIN, MIN, -1, MAX, MIN);
        due("too great, though it is taken 0 times", z.root(0), MUCH);
        sheetOf(z, 0, 0, MIN, MIN, MAX, 1, MAX, MIN);
        due("not too great, taken 0 times", z.root(0), 0);
        PairsStand less = edges(97, 6, 0, 1, 2, 3, 4, 5, 0, 2, 1, 3, 0, 3, 1, 2);
        sheetOf(less, 0, 0, -(1 << 23), 1 << 20, 1 << 20, -1, 1, 0, 0);
        due("taken away, within 64 bits", less.root(0), Long.MIN_VALUE + (1 << 20));
        sheetOf(less, 0, 0, -(1 << 23), 1 << 20, 1 << 20, 1, 1, 0, 0);
        due("taken away, beyond 64 bits", less.root(0), MUCH);
        sheetOf(less, 0, 0, -(1 << 23), 1 << 20, 1 << 20, 1, 1, 1, 1);
        due("beyond 64 bits and back", less.root(0), MUCH);
    }

    private static int drawn(int z) {
        return z * 1103515245 + 12345;
    }

    /** Disjoint edges: HALF is how many draws aren't 0 by rests. */
    private static int[] halves(int seed, int n, int pairs, int q) {
        int[] all = new int[n];
        int z = seed;
        for (int t = 0; t < n; t++) {
            for (int p = 0; p < pairs; p++) {
                z = drawn(z);
                all[t] += (z >>> 8) % q == 0 ? 0 : 1;
            }
        }
        return all;
    }

    private static void drawnTables(boolean sure) {
        int[] seeds = {0, 1, 2, 3, -1, 12345, MIN, MAX, 99, 7};
        for (int q : new int[] {2, 3, 7, 97}) {
            PairsStand x = edges(q, 6, 0, 1, 2, 3, 4, 5);
            for (int seed : seeds) {
                for (int n = 1; n <= 20; n++) {
                    int greatest = 0;
                    int like = 0;
                    for (int half : halves(seed, n, 3, q)) {
                        greatest = Math.max(greatest, half);
                        like += half == 3 ? 1 : 0;
                    }
                    due(q + " seed " + seed + " n " + n, sure ? x.sure(seed, n) : x.claim(seed, n), sure ? like : greatest);
                }
            }
        }
    }

    private static void claim() {
        drawnTables(false);
        PairsStand x = four();
        due("n 0", x.claim(1, 0), BAD);
        due("n 21", x.claim(1, 21), BAD);
        due("n MIN", x.claim(1, MIN), BAD);
        due("without pairs", new PairsStand().claim(5, 20), 0);
        due("wide 1", edges(7, 1, 0, 1).claim(5, 20), 0);
    }

    private static void sure() {
        drawnTables(true);
        PairsStand x = four();
        due("n 0", x.sure(1, 0), BAD);
        due("n 21", x.sure(1, 21), BAD);
        due("n MAX", x.sure(1, MAX), BAD);
        due("without pairs", new PairsStand().sure(5, 20), 20);
        due("wide 1", edges(7, 1, 0, 1).sure(5, 20), 20);
    }

    // ---- covers

    private static void cover() {
        PairsStand x = edges(7, 4, 0, 1, 2, 3, 0, 2);
        sheetOf(x, 0, 1);
        sheetOf(x, 1, 0, 5, 5, 5, 6);
        sheetOf(x, 2, 1, 1L << 40, 1L << 40);
        int[][] want = {{0, 0, 3}, {0, 1, 2}, {0, 5, 2}, {0, 15, 4}, {1, 0, 2}, {1, 1, 2}, {1, 3, 3}, {1, 7, 3}, {2, 0, 3},
            {2, 4, 2}, {2, 2, 3}};
        for (int[] one : want) {
            due("cover " + one[0] + " " + one[1], x.cover(one[0], one[1]), one[2]);
        }
        sheetOf(x, 2, 1, 1L << 40, 0, 1L << 40);
        due("half is cut", x.cover(2, 0), 2);
        sheetOf(x, 2, 1, 1L << 32, 0, 0);
        due("longs are told apart", x.cover(2, 0), 2);
        sheetOf(x, 2, 1, 0, 1L << 32, 0);
        due("longs are told apart", x.cover(2, 0), 2);
        sheetOf(x, 2, 1, 0);
        due("what lacks is like nothing", x.cover(2, 0), 3);
        due("axes 16", x.cover(0, 16), BAD);
        due("axes -1", x.cover(0, -1), BAD);
        due("sheet 4", x.cover(4, 0), BAD);
        due("sheet -1", x.cover(-1, 0), BAD);
        due("missing", x.cover(3, 0), NOTHING);
        due("BAD is first", x.cover(3, 16), BAD);
        due("without pairs", withSheet(7, 6).cover(0, 21), 3);
        PairsStand y = edges(7, 6, 0, 1, 2, 3, 4, 5);
        sheetOf(y, 0, 0, 1, 1, 1);
        due("wide 6", y.cover(0, 0), 3);
        due("wide 6, all axes", y.cover(0, 63), 6);
        y.pair(0, 0);
        rows(y, 3, new int[] {1, 1, 1, 0, 0, 0}, new int[] {1, 1, 2, 0, 0, 0});
        sheetOf(y, 0, 0, 1, 1, 1, 2);
        due("an axis that rows are made of", y.cover(0, 4), 1 + 2 + 0);
        due("no axis", y.cover(0, 0), 4);
        PairsStand ten = ten();
        sheetOf(ten, 0, 0);
        due("of ten", ten.cover(0, 0), 10);
        due("of ten", ten.cover(0, 3), 3);
        sheetOf(ten, 0, 0, 1, 1, 1, 1, 1, 1, 1, 1, 1, 2);
        due("of ten", ten.cover(0, 0), 4);
    }

    private static void cheap() {
        PairsStand star = edges(7, 6, 0, 1, 0, 2, 0, 3, 0, 4, 0, 5);
        due("one class", star.cheap(0, 0), 3);
        due("one class, axes", star.cheap(0, 1), 0);
        due("own classes", star.cheap(1, 0), 1);
        due("own classes, axes", star.cheap(1, 1), 1);
        PairsStand two = edges(7, 6, 5, 1, 5, 2, 5, 3, 4, 0, 4, 1, 4, 2);
        due("two axes", two.cheap(1, 0), 2);
        due("two axes", two.cheap(1, 1), bits(4, 5));
        PairsStand odd = edges(7, 3, 0, 1, 1, 2, 0, 2);
        due("odd, one class", odd.cheap(0, 0), 1);
        due("odd, one class", odd.cheap(0, 1), 0);
        due("odd, own classes", odd.cheap(1, 0), 2);
        due("the least of like ones", odd.cheap(1, 1), 1);
        due("how 2", odd.cheap(2, 0), BAD);
        due("how -1", odd.cheap(-1, 0), BAD);
        due("what 2", odd.cheap(0, 2), BAD);
        due("what -1", odd.cheap(0, -1), BAD);
        due("without pairs", new PairsStand().cheap(0, 0), 0);
        due("without pairs", new PairsStand().cheap(1, 1), 0);
        due("of ten", ten().cheap(0, 0), 3);
        due("of ten", ten().cheap(0, 1), 0);
        due("of ten", ten().cheap(1, 0), 3);
        due("of ten", ten().cheap(1, 1), 3);
    }

    // ---- rays

    /** RAYS (0, 0, 0, 1), (0, 0, 1, 2), (1, 0, 0, 5). */
    private static PairsStand threeRays() {
        PairsStand x = new PairsStand();
        for (int p = 0; p < 4; p++) {
            x.pair(0, 0);
        }
        rows(x, 0, new int[] {3, 0, 0, 1}, new int[] {0, 0, 2, 4});
        rows(x, 1, new int[] {0, 0, 0, 6}, new int[] {0, 0, 0, 0});
        rows(x, 2, new int[] {-1, 0, 7, -5}, new int[] {0, 0, 3, -1});
        x.set(3, 0, 5);
        return x;
    }

    private static void rays() {
        due("none", new PairsStand().rays(), 0);
        due("three", threeRays().rays(), 3);
        PairsStand x = threeRays();
        x.field(7, 2);
        due("by WIDE", x.rays(), 1);
        x.field(97, 4);
        due("by PRIME", x.rays(), 5);
        PairsStand many = new PairsStand();
        many.field(97, 2);
        for (int p = 0; p < 10; p++) {
            many.pair(0, 0);
            rows(many, p, new int[] {1, 20 - p}, new int[] {1, p});
        }
        due("twenty", many.rays(), 20);
    }

    private static void ray() {
        PairsStand x = threeRays();
        due("ray 0", x.ray(0), 1);
        due("ray 1", x.ray(1), 9);
        due("ray 2", x.ray(2), 348);
        due("ray 3", x.ray(3), PLACE);
        due("ray -1", x.ray(-1), PLACE);
        due("ray MAX", x.ray(MAX), PLACE);
        PairsStand y = new PairsStand();
        y.field(97, 6);
        y.pair(0, 0);
        rows(y, 0, new int[] {-1, 1, 1, 1, 1, 1}, new int[] {1, 96, 96, 96, 96, 95});
        due("wide 6", y.ray(0), 17174680512L);
        due("wide 6", y.ray(1), 17174680513L);
    }

    private static void rayOf() {
        PairsStand x = threeRays();
        int[][] want = {{2, 1}, {0, NONE}, {2, 1}, {NONE, NONE}};
        for (int p = 0; p < 4; p++) {
            due("first of " + p, x.rayOf(p, 0), want[p][0]);
            due("second of " + p, x.rayOf(p, 1), want[p][1]);
        }
        due("pair 4", x.rayOf(4, 0), BAD);
        due("pair -1", x.rayOf(-1, 0), BAD);
        due("row 2", x.rayOf(0, 2), BAD);
        due("row -1", x.rayOf(0, -1), BAD);
        due("of ten", ten().rayOf(9, 0), 3);
        due("of ten", ten().rayOf(9, 1), 2);
    }

    // ---- nets

    private static void link() {
        PairsStand x = new PairsStand();
        due("0 1 on", x.link(0, 1, 1), 0);
        due("1 0 on", x.link(1, 0, 1), 1);
        due("lines", x.count(4), 1);
        due("1 0 off", x.link(1, 0, 0), 1);
        due("0 1 off", x.link(0, 1, 0), 0);
        due("lines", x.count(4), 0);
        for (int b = 5; b < 8; b++) {
            due("4 on", x.link(4, b, 1), 0);
        }
        due("a fourth", x.link(4, 0, 1), STATE);
        due("a fourth, turned", x.link(0, 4, 1), STATE);
        due("lines", x.count(4), 3);
        due("one that is there", x.link(4, 7, 1), 1);
        due("none, as it was", x.link(4, 0, 0), 0);
        due("off", x.link(5, 4, 0), 1);
        due("room again", x.link(0, 4, 1), 0);
        int[][] bad = {{-1, 0, 1}, {8, 0, 1}, {0, -1, 1}, {0, 8, 1}, {3, 3, 1}, {3, 3, 0}, {4, 1, 2}, {4, 1, -1}, {MIN, MAX, 0}};
        for (int[] one : bad) {
            due("wrong", x.link(one[0], one[1], one[2]), BAD);
        }
        due("lines", x.count(4), 3);
    }

    private static PairsStand net(int... ends) {
        PairsStand x = new PairsStand();
        for (int k = 0; k < ends.length; k += 2) {
            due("link", x.link(ends[k], ends[k + 1], 1), 0);
        }
        return x;
    }

    private static PairsStand cube() {
        return net(0, 1, 2, 3, 4, 5, 6, 7, 0, 2, 1, 3, 4, 6, 5, 7, 0, 4, 1, 5, 2, 6, 3, 7);
    }

    private static void breaks() {
        due("no lines", new PairsStand().breaks(0), 1);
        PairsStand path = net(0, 7, 7, 1, 1, 6, 6, 2, 2, 5, 5, 3, 3, 4);
        due("a path", path.breaks(0), 1);
        due("a long ring", closed(path).breaks(0), 0);
        due("a long ring, broken", closed(path).breaks(bits(5)), 1);
        PairsStand triangle = net(1, 3, 3, 5, 5, 1, 5, 6);
        due("triangle", triangle.breaks(0), 0);
        due("triangle", triangle.breaks(bits(0, 2, 4, 6, 7)), 0);
        due("triangle", triangle.breaks(bits(3)), 1);
        due("all", triangle.breaks(255), 1);
        due("256", triangle.breaks(256), BAD);
        due("-1", triangle.breaks(-1), BAD);
        due("cube less two", cube().breaks(bits(0, 7)), 0);
        due("cube less three", cube().breaks(bits(0, 3, 5)), 1);
    }

    private static PairsStand closed(PairsStand path) {
        path.link(4, 0, 1);
        return path;
    }

    private static void feedback() {
        PairsStand x = net(1, 3, 3, 5, 5, 1, 0, 2, 2, 4, 4, 0);
        due("fewest", x.feedback(0), 2);
        due("least", x.feedback(1), 3);
        due("sets", x.feedback(2), 9);
        due("3", x.feedback(3), BAD);
        due("-1", x.feedback(-1), BAD);
        due("cube", cube().feedback(0), 3);
        due("cube", cube().feedback(1), bits(1, 2, 4));
        due("cube", cube().feedback(2), 32);
        PairsStand none = net(0, 1, 1, 2);
        due("none", none.feedback(0), 0);
        due("none", none.feedback(1), 0);
        due("none", none.feedback(2), 1);
        PairsStand late = net(0, 6, 6, 7, 7, 0, 1, 6, 1, 7);
        due("a greater set comes first", late.feedback(0), 1);
        due("a greater set comes first", late.feedback(1), bits(6));
        due("a greater set comes first", late.feedback(2), 2);
    }

    // ---- hands

    private static void hold() {
        PairsStand x = threeRays();
        due("nothing yet", x.hold(0, 1, 0), 0);
        due("a pair", x.hold(0, 2, 2), 1);
        due("a ray", x.hold(0, 0, MIN), 2);
        due("nothing", x.hold(0, 0, 0), 0);
        x.hold(3, 1, 3);
        int[][] bad = {{-1, 0, 0}, {4, 0, 0}, {3, -1, 0}, {3, 3, 0}, {3, 1, 4}, {3, 1, -1}, {3, 2, 3}, {3, 2, -1}};
        for (int[] one : bad) {
            due("wrong", x.hold(one[0], one[1], one[2]), BAD);
        }
        due("it still holds it", x.hold(3, 0, 0), 1);
    }

    private static void asPair() {
        boolean[][] under = {{true, false, false, false, false, false}, {true, true, false, false, false, false},
            {true, false, true, false, false, false}, {true, true, false, true, false, false},
            {true, false, true, false, true, false}, {true, false, false, false, false, true}};
        PairsStand x = new PairsStand();
        for (int kind = 0; kind < 6; kind++) {
            x.pair(kind, 100 + kind);
            x.hold(1, 1, kind);
            for (int asked = 0; asked < 6; asked++) {
                due(kind + " as " + asked, x.asPair(1, asked), under[kind][asked] ? 100 + kind : KIND);
            }
        }
        x.set(5, 0, 1);
        x.set(5, 1, 7);
        due("as it was", x.asPair(1, 5), 105);
        for (int p = 0; p < 6; p++) {
            x.drop();
        }
        due("as it was", x.asPair(1, 0), 105);
        due("nothing", x.asPair(0, 0), NOTHING);
        due("hand 4", x.asPair(4, 0), BAD);
        due("hand -1", x.asPair(-1, 0), BAD);
        due("kind 6", x.asPair(1, 6), BAD);
        due("kind -1", x.asPair(1, -1), BAD);
        due("BAD is first", x.asPair(0, 6), BAD);
        PairsStand y = threeRays();
        y.hold(0, 2, 0);
        due("a ray", y.asPair(0, 0), KIND);
    }

    private static void asRay() {
        PairsStand x = threeRays();
        x.hold(0, 2, 2);
        x.hold(1, 1, 0);
        x.entry(0, 0, 3, 5);
        x.field(97, 6);
        int[] want = {1, 0, 0, 5};
        for (int i = 0; i < 4; i++) {
            due("number " + i, x.asRay(0, i), want[i]);
        }
        due("number 4", x.asRay(0, 4), PLACE);
        due("number -1", x.asRay(0, -1), PLACE);
        due("a pair", x.asRay(1, 9), KIND);
        due("nothing", x.asRay(2, 9), NOTHING);
        due("hand 4", x.asRay(4, 9), BAD);
        due("hand -1", x.asRay(-1, 9), BAD);
    }

    private static void compare() {
        PairsStand x = threeRays();
        x.hold(0, 2, 0);
        x.hold(1, 2, 1);
        due("ahead", x.compare(0, 1), -1);
        due("behind", x.compare(1, 0), 1);
        due("itself", x.compare(1, 1), 0);
        x.hold(2, 2, 1);
        due("alike", x.compare(1, 2), 0);
        x.hold(2, 1, 0);
        due("a pair", x.compare(1, 2), KIND);
        due("a pair", x.compare(2, 1), KIND);
        due("two pairs", x.compare(2, 2), KIND);
        due("nothing", x.compare(3, 1), NOTHING);
        due("nothing is ahead of a pair", x.compare(2, 3), NOTHING);
        due("nothing is ahead of a pair", x.compare(3, 2), NOTHING);
        due("two of nothing", x.compare(3, 3), NOTHING);
        due("hand 4", x.compare(4, 3), BAD);
        due("hand -1", x.compare(3, -1), BAD);
        PairsStand y = edges(7, 4, 3, 1);
        y.hold(0, 2, 1);
        y.field(7, 2);
        y.hold(1, 2, 0);
        due("a number that lacks is ahead", y.compare(1, 0), -1);
        due("a number that lacks is ahead", y.compare(0, 1), 1);
        y.field(7, 4);
        y.entry(0, 0, 3, 0);
        y.entry(0, 0, 0, 2);
        y.hold(3, 2, 1);
        due("by number 0 first", y.compare(0, 3), -1);
        due("by number 0 first", y.compare(3, 0), 1);
        y.entry(0, 0, 0, 0);
        y.entry(0, 0, 3, 1);
        y.field(7, 6);
        y.hold(2, 2, 0);
        due("a number is ahead of length", y.compare(2, 1), -1);
        y.field(13, 2);
        y.hold(2, 2, 0);
        due("alike, of another prime", y.compare(2, 1), 0);
        PairsStand six = ten();
        six.hold(0, 2, 5);
        six.hold(1, 2, 5);
        due("alike, of six numbers", six.compare(0, 1), 0);
    }

    // ---- sheets, an image

    private static void sheet() {
        PairsStand x = new PairsStand();
        for (int s = 0; s < 4; s++) {
            due("a row", x.sheet(s, s % 2, 30), 1);
            x.cell(s, 0, 9);
            x.cell(s, 29, 8);
            due("read", x.read(s, 29), 8);
            due("again", x.sheet(s, s % 2, 30), 1);
            due("all 0", x.read(s, 29), 0);
            due("all 0", x.read(s, 0), 0);
            due("of none", x.sheet(s, s % 2, 0), 1);
            due("of none", x.read(s, 0), PLACE);
            due("missing", x.sheet(s, -1, MIN), 1);
            due("missing", x.read(s, 0), NOTHING);
            due("missing", x.sheet(s, -1, MAX), 1);
        }
        x.sheet(2, 1, 3);
        x.cell(2, 1, 5);
        int[][] wrongOnes = {{-1, 0, 1, BAD}, {4, 0, 1, BAD}, {2, -2, 1, BAD}, {2, 2, 1, BAD}, {2, 0, 31, BAD}, {2, 1, MAX, BAD},
            {2, 0, -1, SIZE}, {2, 1, MIN, SIZE}, {4, 0, -1, BAD}, {2, 2, -1, BAD}};
        for (int[] one : wrongOnes) {
            due("wrong " + one[2], x.sheet(one[0], one[1], one[2]), one[3]);
        }
        due("unchanged", x.read(2, 1), 5);
    }

    private static void cell() {
        PairsStand x = new PairsStand();
        x.sheet(0, 0, 2);
        x.sheet(1, 1, 2);
        due("an int", x.cell(0, 1, MAX), 1);
        due("an int", x.cell(0, 0, MIN), 1);
        due("no int", x.cell(0, 1, MAX + 1L), MUCH);
        due("no int", x.cell(0, 0, MIN - 1L), MUCH);
        due("unchanged", x.read(0, 1), MAX);
        due("unchanged", x.read(0, 0), MIN);
        due("a long", x.cell(1, 1, Long.MAX_VALUE), 1);
        due("a long", x.cell(1, 0, Long.MIN_VALUE), 1);
        due("read", x.read(1, 1), Long.MAX_VALUE);
        due("read", x.read(1, 0), Long.MIN_VALUE);
        due("place 2", x.cell(0, 2, 1), PLACE);
        due("place -1", x.cell(1, -1, 1), PLACE);
        due("PLACE is ahead of MUCH", x.cell(0, 2, 1L << 40), PLACE);
        due("missing", x.cell(2, 5, 1), NOTHING);
        due("sheet 4", x.cell(4, 0, 1), BAD);
        due("sheet -1", x.cell(-1, 0, 1), BAD);
    }

    private static void read() {
        PairsStand x = new PairsStand();
        sheetOf(x, 3, 1, 5, -6, 7);
        due("read", x.read(3, 0), 5);
        due("read", x.read(3, 1), -6);
        due("read", x.read(3, 2), 7);
        due("place 3", x.read(3, 3), PLACE);
        due("place -1", x.read(3, -1), PLACE);
        due("place MAX", x.read(3, MAX), PLACE);
        due("missing", x.read(0, -1), NOTHING);
        due("sheet 4", x.read(4, 0), BAD);
        due("sheet -1", x.read(-1, 0), BAD);
    }

    private static void load() {
        PairsStand x = new PairsStand();
        x.pair(0, 0);
        x.pair(0, 0);
        x.sheet(0, 1, 14);
        long[] cells = {0, 199, -199, 100, Long.MAX_VALUE, Long.MIN_VALUE, 5, 6, -7, 8, 9, 10, 11, 0};
        int[] want = {99, -99, 0, 7, -8, 5, 6, -7, 8, 9, 10, 11};
        for (int i = 0; i < cells.length; i++) {
            x.cell(0, i, cells[i]);
        }
        due("load", x.load(0, 1, 1), 12);
        for (int i = 0; i < 12; i++) {
            due("entry " + i, x.entry(1, i / 6, i % 6, 0), want[i]);
            due("the other pair", x.entry(0, i / 6, i % 6, 1), 0);
        }
        due("the last place", x.load(0, 0, 2), 12);
        due("A 0", x.entry(0, 0, 0, 3), -99);
        due("the next pair's A 0", x.entry(1, 0, 0, 0), 0);
        due("from 0", x.load(0, 1, 0), 12);
        due("A 0", x.entry(1, 0, 0, 0), 0);
        due("A 1", x.entry(1, 0, 1, 0), 99);
        x.sheet(3, 1, 30);
        x.cell(3, 29, 44);
        due("from 18 of 30", x.load(3, 1, 18), 12);
        due("B 5", x.entry(1, 1, 5, 0), 44);
        due("beyond", x.load(0, 0, 3), PLACE);
        due("-1", x.load(0, 0, -1), PLACE);
        due("MAX", x.load(0, 0, MAX), PLACE);
        due("nothing came", x.entry(0, 0, 0, 3), 3);
        x.sheet(1, 0, 11);
        due("too short", x.load(1, 0, 0), PLACE);
        due("missing", x.load(2, 0, -1), NOTHING);
        due("pair 2", x.load(0, 2, 0), BAD);
        due("pair -1", x.load(0, -1, 0), BAD);
        due("sheet 4", x.load(4, 0, 0), BAD);
        due("BAD is first", x.load(2, 2, 0), BAD);
    }

    private static void image() {
        due("of none", new PairsStand().image(), 0);
        PairsStand x = four();
        due("image", x.image(), 4);
        due("nothing changes", x.count(0), 4);
        x.drop();
        due("another", x.image(), 3);
        x.drop();
        x.drop();
        due("the last one is kept", x.back(), 3);
        PairsStand ten = ten();
        due("of ten", ten.image(), 10);
        ten.entry(9, 1, 3, 5);
        ten.drop();
        due("of ten", ten.back(), 10);
        due("of ten", ten.number(9, 1, 3), 1);
    }

    private static void back() {
        PairsStand x = pairsNamed("a", "b");
        due("none", x.back(), STATE);
        due("none", x.count(0), 2);
        x.field(97, 6);
        rows(x, 0, new int[] {1, 2, 3, 4, 5, 6}, new int[] {7, 8, 9, 10, 11, 12});
        x.set(1, 0, 3);
        x.set(1, 1, 77);
        x.link(2, 5, 1);
        x.sheet(0, 1, 2);
        x.image();
        for (int round = 0; round < 2; round++) {
            x.field(2, 1);
            rows(x, 0, new int[] {9, 9, 9, 9, 9, 9}, new int[] {9, 9, 9, 9, 9, 9});
            x.name(0, text("c"));
            x.drop();
            x.pair(5, 5);
            x.pair(5, 5);
            x.link(2, 5, 0);
            x.link(2, 6, 1);
            x.cell(0, 1, 40 + round);
            x.hold(3, 1, 0);
            due("back", x.back(), 2);
            due("prime", x.count(1), 97);
            due("wide", x.count(2), 6);
            due("names", x.count(3), 2);
            due("a", x.named(text("a")), 0);
            due("b", x.named(text("b")), 1);
            for (int i = 0; i < 6; i++) {
                due("A", x.number(0, 0, i), i + 1);
                due("B", x.number(0, 1, i), i + 7);
            }
            due("kind", x.told(1, 0), 3);
            due("weight", x.told(1, 1), 77);
            due("lines", x.count(4), 1);
            due("line", x.link(5, 2, 1), 1);
            due("sheets aren't kept", x.read(0, 1), 40 + round);
            due("hands aren't kept", x.asPair(3, 0), 0);
        }
    }

    private static void count() {
        PairsStand x = pairsNamed("a", "", "b");
        x.field(13, 5);
        x.link(0, 1, 1);
        x.link(1, 2, 1);
        int[] want = {3, 13, 5, 2, 2};
        for (int what = 0; what < 5; what++) {
            due("count " + what, x.count(what), want[what]);
        }
        due("5", x.count(5), BAD);
        due("-1", x.count(-1), BAD);
        due("MIN", x.count(MIN), BAD);
    }
}
