import java.math.BigInteger;
import java.util.List;
import java.util.Random;
import java.util.Set;

/** The document's "Terms", sentence by sentence: what each number may be, how many there may be of each thing, each edge. */
public final class TermsTest {
    private static final int NONE = Asking.NONE, BAD = Asking.BAD, STATE = Asking.STATE, FULL = Asking.FULL, MUCH = Asking.MUCH;
    private static final int NOTHING = Asking.NOTHING, PLACE = Asking.PLACE, KIND = Asking.KIND, SIZE = Asking.SIZE;
    private static final int MIN = Asking.MIN, MAX = Asking.MAX;
    private static final Set<Integer> PRIMES = Set.of(2, 3, 5, 7, 11, 13, 17, 19, 23, 29, 31, 37, 41, 43, 47, 53, 59, 61, 67, 71,
        73, 79, 83, 89, 97);

    public static void main(String[] args) {
        refusals();
        ofSeveral();
        ofSeveralOfTheHost();
        changesNothing();
        primeAndWide();
        rowNumbers();
        pairs();
        kinds();
        sets();
        most();
        queue();
        better();
        tables();
        roots();
        rootNumbers();
        rootSums();
        draws();
        covers();
        rays();
        names();
        nets();
        rings();
        sheets();
        hands();
        image();
        bounds();
        Asking.quotedWhole("Terms");
        Asking.end("terms");
    }

    private static void says(String words) {
        Asking.says("Terms", words);
    }

    private static void is(PairsStand x, long want, String call, Object... values) {
        Asking.is(x, want, call, values);
    }

    // ---- refused calls

    private static void refusals() {
        says("A call that is refused answers NONE (-1), BAD (-2), STATE (-3), FULL (-4), MUCH (-5), or by the host NOTHING (-11), "
            + "PLACE (-12), KIND (-13), SIZE (-14)");
        long[] got = {PairsStand.NONE, PairsStand.BAD, PairsStand.STATE, PairsStand.FULL, PairsStand.MUCH, PairsStand.NOTHING,
            PairsStand.PLACE, PairsStand.KIND, PairsStand.SIZE};
        long[] want = {-1, -2, -3, -4, -5, -11, -12, -13, -14};
        for (int k = 0; k < want.length; k++) {
            Asking.due("constant " + k, got[k], want[k]);
        }
        PairsStand x = Asking.made();
        is(x, -1, "named", Asking.text("a"));
        is(x, -2, "best", 4);
        is(x, -3, "drop");
        is(x, -11, "half", 0);
        is(x, -12, "queue", 0);
        is(x, -14, "sheet", 0, 0, -1);
        Asking.sheet(x, 0, 0, 5);
        is(x, -5, "cell", 0, 0, 1L << 31);
        for (int p = 0; p < 10; p++) {
            is(x, p, "pair", 0, 0);
        }
        is(x, -4, "pair", 0, 0);
        is(x, 0, "hold", 0, 1, 0);
        is(x, -13, "asRay", 0, 0);
        says("(as longs, where a long is answered)");
        PairsStand y = Asking.sheet(Asking.edges(7, 2, 0, 1), 0, 1, 1L << 31);
        Asking.due("nameAt", y.nameAt(0), -12L);
        Asking.due("ray", y.ray(2), -12L);
        Asking.due("read", y.read(4, 0), -2L);
        Asking.due("read", y.read(1, 0), -11L);
        Asking.due("read", y.read(0, 1), -12L);
        Asking.due("root", y.root(4), -2L);
        Asking.due("root", y.root(1), -11L);
        Asking.due("root", y.root(0), -5L);
        is(y, 7, "field", 7, 1);
        Asking.due("root", y.root(0), -3L);
    }

    private static PairsStand rich() {
        return Asking.rich();
    }

    private static PairsStand full() {
        PairsStand x = Asking.full();
        is(x, 10, "image");
        is(x, 1, "name", 9, Asking.text("ten"));
        return x;
    }

    private static void ofSeveral() {
        says(": of several the one that stands first with it;");
        is(full(), BAD, "pair", 6, 0);
        is(full(), BAD, "pair", 0, 1000);
        is(full(), FULL, "pair", 5, 999);
        PairsStand x = rich();
        is(x, BAD, "name", 4, Asking.text("a"));
        is(x, BAD, "name", 1, Asking.text("a") + 1);
        is(x, STATE, "name", 1, Asking.text("a"));
        is(x, BAD, "named", Asking.text("abcdefgh"));
        is(x, NONE, "named", Asking.text("abcdefg"));
        is(x, BAD, "told", 4, 3);
        is(x, BAD, "told", 1, 5);
        is(x, NONE, "told", 1, 3);
        is(x, BAD, "better", bits(1, 4));
        is(x, STATE, "better", bits(1));
        is(x, BAD, "rayOf", 3, 2);
        is(x, NONE, "rayOf", 3, 1);
        is(x, BAD, "link", 0, 0, 1);
        is(x, BAD, "link", 0, 8, 1);
        is(x, BAD, "link", 0, 4, 2);
        is(x, STATE, "link", 0, 4, 1);
        is(x, STATE, "link", 4, 0, 1);
        is(x, 0, "feedback", 0);
    }

    private static void ofSeveralOfTheHost() {
        PairsStand x = rich();
        is(x, BAD, "table", 3, 4, 0);
        is(x, BAD, "table", 3, 0, -1);
        is(x, NOTHING, "table", 3, 3, 3);
        is(x, BAD, "cover", 3, 16);
        is(x, NOTHING, "cover", 3, 15);
        is(x, BAD, "asPair", 3, 6);
        is(x, BAD, "asPair", 1, 6);
        is(x, NOTHING, "asPair", 3, 0);
        is(x, BAD, "asRay", 4, -1);
        is(x, NOTHING, "asRay", 3, -1);
        is(x, KIND, "asRay", 0, -1);
        is(x, PLACE, "asRay", 1, -1);
        is(x, BAD, "compare", 4, 3);
        is(x, BAD, "compare", 0, -1);
        is(x, NOTHING, "compare", 3, 0);
        is(x, NOTHING, "compare", 0, 3);
        is(x, KIND, "compare", 0, 1);
        is(x, BAD, "sheet", 4, 0, -1);
        is(x, BAD, "sheet", 0, 2, -1);
        is(x, BAD, "sheet", 0, -2, MIN);
        is(x, SIZE, "sheet", 0, 0, MIN);
        is(x, BAD, "cell", 4, -1, 1L << 40);
        is(x, NOTHING, "cell", 3, -1, 1L << 40);
        is(x, PLACE, "cell", 0, 13, 1L << 40);
        is(x, MUCH, "cell", 0, 12, 1L << 40);
        is(x, BAD, "read", -1, -1);
        is(x, NOTHING, "read", 3, 30);
        is(x, PLACE, "read", 2, 0);
        is(x, BAD, "load", 3, 4, 0);
        is(x, BAD, "load", 4, 0, -1);
        is(x, NOTHING, "load", 3, 0, -1);
        is(x, PLACE, "load", 0, 0, 2);
        PairsStand odd = Asking.sheet(Asking.edges(7, 3, 0, 1), 0, 1, Long.MAX_VALUE);
        is(odd, BAD, "root", 4);
        is(odd, NOTHING, "root", 1);
        is(odd, STATE, "root", 0);
        is(odd, 7, "field", 7, 4);
        is(odd, MUCH, "root", 0);
    }

    /** Each refusal of each call, here as the last of a state in which much would be lost; promise by promise in EdgesTest. */
    private static void changesNothing() {
        says("it changes nothing, but where told.");
        Asking.refuses(TermsTest::full, FULL, "pair", 3, 3);
        Asking.refuses(TermsTest::rich, BAD, "field", 13, 7);
        Asking.refuses(TermsTest::rich, BAD, "field", 15, 6);
        Asking.refuses(TermsTest::rich, STATE, "name", 2, Asking.text("a"));
        Asking.refuses(TermsTest::rich, STATE, "link", 0, 4, 1);
        Asking.refuses(TermsTest::rich, MUCH, "cell", 0, 3, 1L << 31);
        Asking.refuses(TermsTest::rich, SIZE, "sheet", 1, 1, -1);
        Asking.refuses(TermsTest::rich, PLACE, "load", 0, 1, 2);
        Asking.refuses(TermsTest::rich, BAD, "hold", 0, 2, 99);
        Asking.refuses(Asking::made, STATE, "back");
        Asking.refuses(Asking::made, STATE, "drop");
    }

    // ---- 1

    private static void primeAndWide() {
        says("PRIME q is one of 2 .. 97 that has no divisor but 1 and itself (7 at first);");
        is(Asking.made(), 7, "count", 1);
        PairsStand x = Asking.made();
        int was = 7;
        for (int v = -60; v <= 110; v++) {
            is(x, PRIMES.contains(v) ? was : BAD, "field", v, 4);
            was = PRIMES.contains(v) ? v : was;
            is(x, was, "count", 1);
        }
        for (int v : new int[] {MIN, MAX, 101, 121, 127, 9409, 65537, 1 << 16, -7, -97}) {
            is(x, BAD, "field", v, 4);
        }
        is(x, 97, "count", 1);
        says("WIDE is 1 .. 6 (4 at first).");
        PairsStand y = Asking.made();
        is(y, 4, "count", 2);
        int wide = 4;
        for (int v : new int[] {MIN, -1, 0, 1, 2, 3, 4, 5, 6, 7, 8, MAX}) {
            is(y, v >= 1 && v <= 6 ? 7 : BAD, "field", 7, v);
            wide = v >= 1 && v <= 6 ? v : wide;
            is(y, wide, "count", 2);
        }
    }

    private static void rowNumbers() {
        says("A ROW has WIDE numbers 0 .. q - 1;");
        for (int wide = 1; wide <= 6; wide++) {
            PairsStand x = Asking.edges(97, wide, 0, 0);
            for (int i = -1; i <= 7; i++) {
                boolean has = i >= 0 && i < wide;
                is(x, has ? i == 0 ? 1 : 0 : BAD, "number", 0, 0, i);
                is(x, has ? i == 0 ? 1 : 0 : BAD, "number", 0, 1, i);
            }
        }
        says("it is reckoned with rests by q (0 .. q - 1, also of what is below 0).");
        for (int q : new int[] {2, 3, 7, 89, 97}) {
            PairsStand x = Asking.field(q, 1);
            is(x, 0, "pair", 2, 0);
            for (int v = -99; v <= 99; v++) {
                is(x, v == -99 ? 0 : v - 1, "entry", 0, 1, 0, v);
                is(x, ((v + 99 * q) % q), "number", 0, 0, 0);
            }
        }
        PairsStand sums = Asking.edges(97, 1, 0, 0);
        is(sums, 0, "set", 0, 0, 3);
        is(sums, 1, "entry", 0, 0, 0, -99);
        is(sums, 1, "entry", 0, 1, 0, -99);
        is(sums, 91, "number", 0, 1, 0);
        is(sums, -99, "entry", 0, 0, 0, 96);
        is(sums, -99, "entry", 0, 1, 0, 96);
        is(sums, 94, "number", 0, 1, 0);
    }

    private static void pairs() {
        says("PAIRS are numbered from 0 as they come, 10 at most:");
        PairsStand x = Asking.made();
        for (int p = 0; p < 10; p++) {
            is(x, BAD, "told", p, 1);
            is(x, p, "pair", p % 6, p);
            is(x, p, "told", p, 1);
        }
        is(x, FULL, "pair", 0, 0);
        is(x, BAD, "told", 10, 1);
        is(x, 9, "drop");
        is(x, 9, "pair", 0, 5);
        is(x, FULL, "pair", 0, 0);
        says("each of a KIND, with a WEIGHT (0 .. 999),");
        PairsStand y = Asking.made();
        for (int v : new int[] {MIN, -1, 6, 7, MAX}) {
            is(y, BAD, "pair", v, 0);
        }
        for (int v : new int[] {MIN, -1, 1000, MAX}) {
            is(y, BAD, "pair", 0, v);
        }
        is(y, 0, "count", 0);
        is(y, 0, "pair", 0, 0);
        is(y, 1, "pair", 5, 999);
        is(y, 999, "told", 1, 1);
        says("a NAME or none (at first), and six numbers A and six numbers B (-99 .. 99; 0 at first),");
        is(y, NONE, "told", 0, 3);
        for (int i = -1; i <= 6; i++) {
            boolean has = i >= 0 && i < 6;
            for (int which = 0; which < 2; which++) {
                is(y, has ? 0 : BAD, "entry", 1, which, i, 99);
                is(y, BAD, "entry", 1, which, i, 100);
                is(y, has ? 99 : BAD, "entry", 1, which, i, -99);
                is(y, BAD, "entry", 1, which, i, -100);
                is(y, has ? -99 : BAD, "entry", 1, which, i, 1);
            }
        }
        is(y, 1, "name", 1, Asking.text("b"));
        is(y, 1, "drop");
        is(y, 1, "pair", 5, 0);
        is(y, NONE, "told", 1, 3);
        for (int i = 0; i < 12; i++) {
            is(y, 0, "entry", 1, i / 6, i % 6, 0);
        }
        says("of which the first WIDE count, by their rests.");
        PairsStand z = Asking.field(7, 6);
        is(z, 0, "pair", 0, 0);
        Asking.rows(z, 0, new int[] {7, 0, 0, 0, 0, 1}, new int[] {-7, 1, 0, 0, 1, 0});
        int[] ranks = {0, 0, 1, 1, 1, 1, 2};
        int[] rayCounts = {0, 0, 1, 1, 1, 1, 2};
        for (int wide = 1; wide <= 6; wide++) {
            is(z, 7, "field", 7, wide);
            is(z, ranks[wide], "rank", 1);
            is(z, rayCounts[wide], "rays");
        }
        is(z, 7, "field", 97, 1);
        is(z, 1, "rank", 1);
    }

    private static void kinds() {
        says("The two ROWS of one: 0 PAIR: A; B. 1 SUM, under PAIR: as a PAIR's; both of a PAIR's, added. 2 TURN, under PAIR: a "
            + "PAIR's second; a PAIR's first. 3 TWICE, under SUM: as a SUM's; a SUM's second and its first, added. 4 LOW, under "
            + "TURN: a TURN's first, with 0 at place 0; as a TURN's. 5 FLAT, under PAIR: as a PAIR's; its first once more.");
        int[][][] due = {{{60, 2}, {50, -3}}, {{60, 2}, {110, -1}}, {{50, -3}, {60, 2}}, {{60, 2}, {170, 1}}, {{0, -3}, {60, 2}},
            {{60, 2}, {60, 2}}};
        for (int q : new int[] {2, 7, 97}) {
            PairsStand x = Asking.field(q, 2);
            for (int kind = 0; kind < 6; kind++) {
                is(x, kind, "pair", kind, 0);
                Asking.rows(x, kind, new int[] {60, 2}, new int[] {50, -3});
                for (int row = 0; row < 2; row++) {
                    for (int i = 0; i < 2; i++) {
                        is(x, Math.floorMod(due[kind][row][i], q), "number", kind, row, i);
                    }
                }
            }
        }
        PairsStand low = Asking.field(7, 1);
        is(low, 0, "pair", 4, 0);
        Asking.rows(low, 0, new int[] {3}, new int[] {4});
        is(low, 0, "number", 0, 0, 0);
        is(low, 3, "number", 0, 1, 0);
        int[][] under = {{0}, {0, 1}, {0, 2}, {0, 1, 3}, {0, 2, 4}, {0, 5}};
        PairsStand hands = Asking.made();
        for (int kind = 0; kind < 6; kind++) {
            is(hands, kind, "pair", kind, 50);
            is(hands, kind == 0 ? 0 : 1, "hold", 0, 1, kind);
            for (int taken = 0; taken < 6; taken++) {
                boolean fits = false;
                for (int u : under[kind]) {
                    fits |= u == taken;
                }
                is(hands, fits ? 50 : KIND, "asPair", 0, taken);
            }
        }
    }

    private static int bits(int... places) {
        return Asking.bits(places);
    }

    private static void sets() {
        says("A SET of PAIRS is told by bits.");
        PairsStand ten = full();
        for (int p = 0; p < 10; p++) {
            is(ten, 2, "rank", 1 << p);
        }
        is(ten, 3, "rank", bits(5, 9));
        is(ten, 4, "rank", bits(0, 9));
        is(ten, 6, "rank", 1023);
        for (int set : new int[] {1024, 1025, 2048, 1 << 30, -1, MIN, MAX}) {
            is(ten, BAD, "rank", set);
            is(ten, BAD, "stands", set);
            is(ten, BAD, "better", set);
        }
        PairsStand none = Asking.made();
        is(none, 0, "rank", 0);
        is(none, BAD, "rank", 1);
        says("RANK of ROWS: of how many of them at the most none is made of the others (sums of these, each so many times, by rests).");
        PairsStand x = Asking.field(7, 4);
        is(x, 0, "pair", 0, 0);
        is(x, 0, "rank", 1);
        Asking.rows(x, 0, new int[] {1, 2, 3, 4}, new int[] {2, 4, 6, 1});
        is(x, 1, "rank", 1);
        is(x, 7, "field", 11, 4);
        is(x, 2, "rank", 1);
        is(x, 1, "pair", 0, 0);
        Asking.rows(x, 1, new int[] {3, 6, 9, 5}, new int[] {0, 0, 0, 1});
        is(x, 2, "rank", 3);
        is(x, 9, "entry", 1, 0, 2, 8);
        is(x, 3, "rank", 3);
        is(x, 11, "field", 2, 4);
        is(x, 3, "rank", 3);
        is(x, 6, "entry", 0, 1, 2, 5);
        is(x, 3, "rank", 3);
        is(x, 1, "entry", 0, 0, 0, -2);
        is(x, 3, "rank", 3);
        is(x, 3, "entry", 1, 0, 0, 4);
        is(x, 2, "rank", 3);
        says("A SET STANDS, if RANK of the ROWS of all its PAIRS is twice as many as they are (so the empty one does).");
        is(none, 1, "stands", 0);
        is(none, BAD, "stands", 1);
        for (int wide = 1; wide <= 6; wide++) {
            PairsStand three = Asking.edges(7, wide, 0, 1, 2, 3, 4, 5);
            is(three, 1, "stands", 0);
            is(three, wide >= 2 ? 1 : 0, "stands", 1);
            is(three, wide >= 4 ? 1 : 0, "stands", 3);
            is(three, wide >= 6 ? 1 : 0, "stands", 7);
            is(three, wide / 2, "most");
        }
        is(ten, 0, "stands", 1023);
        is(ten, 1, "stands", bits(3, 8, 9));
        is(ten, 0, "stands", bits(2, 8, 9));
    }

    // ---- 2

    private static PairsStand weights(PairsStand x, int... weights) {
        for (int p = 0; p < weights.length; p++) {
            Asking.ask(x, "set", p, 1, weights[p]);
        }
        return x;
    }

    private static void most() {
        says("MOST: how many PAIRS the greatest SETS that STAND have.");
        is(Asking.made(), 0, "most");
        is(full(), 3, "most");
        PairsStand zero = Asking.made();
        for (int p = 0; p < 10; p++) {
            is(zero, p, "pair", p % 6, 9);
        }
        is(zero, 0, "most");
        says("BEST: of those with as many the least number.");
        is(zero, 0, "best", 0);
        is(full(), bits(4, 7, 9), "best", 0);
        is(Asking.edges(7, 2, 1, 1, 0, 1, 1, 0), bits(1), "best", 0);
        says("HEAVY: of all SETS that STAND that with the greatest WEIGHTS, together, of like ones the least number.");
        is(zero, 0, "heavy", 0);
        is(zero, 0, "heavy", 1);
        PairsStand three = weights(Asking.edges(7, 6, 0, 1, 2, 3, 4, 5), 999, 999, 999);
        is(three, 7, "heavy", 0);
        is(three, 2997, "heavy", 1);
        weights(three, 0, 5, 0);
        is(three, bits(1), "heavy", 0);
        is(three, 5, "heavy", 1);
        weights(three, 0, 0, 0);
        is(three, 0, "heavy", 0);
        PairsStand one = weights(Asking.edges(7, 4, 0, 1, 2, 3, 0, 2), 5, 6, 11);
        is(one, 3, "heavy", 0);
        weights(one, 5, 6, 12);
        is(one, 4, "heavy", 0);
        is(one, 12, "heavy", 1);
    }

    private static void queue() {
        says("QUEUE: PAIRS by WEIGHT, the greatest first, of like ones by KIND, the least first, of like ones by number.");
        PairsStand x = Asking.made();
        is(x, PLACE, "queue", 0);
        int[][] kindsAndWeights = {{5, 1}, {0, 0}, {5, 999}, {0, 999}, {5, 1}, {1, 1}, {0, 0}, {4, 1}, {4, 1}, {0, 998}};
        int[] order = {3, 2, 9, 5, 7, 8, 0, 4, 1, 6};
        for (int[] one : kindsAndWeights) {
            Asking.ask(x, "pair", one[0], one[1]);
        }
        for (int k = 0; k < 10; k++) {
            is(x, order[k], "queue", k);
            is(x, k, "told", order[k], 2);
        }
        is(x, PLACE, "queue", 10);
        is(x, PLACE, "queue", -1);
        says("GREEDY: from the empty one, PAIRS of QUEUE one behind the other, each with which what is taken STANDS.");
        is(Asking.made(), 0, "greedy", 0);
        is(Asking.made(), 0, "greedy", 1);
        is(full(), bits(0, 9), "greedy", 0);
        PairsStand y = weights(Asking.edges(7, 4, 0, 1, 2, 3, 1, 2), 5, 5, 6);
        is(y, 4, "greedy", 0);
        is(y, 6, "greedy", 1);
        weights(y, 5, 5, 5);
        is(y, 3, "greedy", 0);
        is(y, 0, "set", 1, 0, 1);
        is(y, 0, "set", 0, 0, 1);
        is(y, 4, "greedy", 0);
        weights(y, 0, 0, 0);
        is(y, 4, "greedy", 0);
        is(y, 0, "greedy", 1);
    }

    private static void better() {
        says("BETTERED (a SET that STANDS): again and again the first that can be: the least PAIR that isn't of it and with which it "
            + "STANDS comes to it; else one, x, of it leaves, two, a and b, a less than b, that aren't, come, and it STANDS then: of "
            + "all such the first by x, then a, then b.");
        is(Asking.made(), 0, "better", 0);
        is(full(), bits(3, 8, 9), "better", 0);
        is(full(), bits(3, 8, 9), "better", bits(0));
        is(full(), bits(4, 7, 9), "better", bits(4, 7));
        is(full(), bits(4, 7, 9), "better", bits(4, 7, 9));
        is(full(), STATE, "better", bits(0, 1));
        PairsStand x = Asking.edges(7, 6, 0, 1, 2, 3, 0, 4, 1, 5, 2, 4, 3, 5);
        is(x, bits(1, 2, 3), "better", bits(0, 1));
        PairsStand second = Asking.edges(7, 6, 0, 1, 2, 3, 2, 4, 3, 5);
        is(second, bits(0, 2, 3), "better", bits(0, 1));
        PairsStand a = Asking.edges(7, 6, 0, 1, 2, 3, 1, 4, 0, 4, 1, 5, 0, 5);
        is(a, bits(1, 2, 5), "better", bits(0, 1));
        PairsStand b = Asking.edges(7, 6, 0, 1, 2, 3, 0, 4, 1, 2, 1, 5, 5, 1);
        is(b, bits(1, 2, 4), "better", bits(0, 1));
        PairsStand star = Asking.edges(7, 6, 0, 1, 0, 2, 0, 3, 0, 4, 0, 5);
        is(star, bits(4), "better", bits(4));
    }

    private static void tables() {
        says("TABLE by numbers x, one for each PAIR: at i, j (0 .. WIDE - 1), for all PAIRS together, x times (number i of its first "
            + "ROW times number j of its second, less number i of its second times number j of its first).");
        PairsStand x = Asking.sheet(Asking.field(97, 2), 0, 1, 10, -1);
        is(x, 0, "table", 0, 0, 1);
        is(x, 0, "pair", 0, 0);
        is(x, 1, "pair", 2, 0);
        Asking.rows(x, 0, new int[] {3, 5}, new int[] {2, 4});
        Asking.rows(x, 1, new int[] {1, 1}, new int[] {1, 2});
        is(x, 21, "table", 0, 0, 1);
        is(x, 76, "table", 0, 1, 0);
        is(x, 0, "table", 0, 0, 0);
        is(x, 0, "table", 0, 1, 1);
        for (int[] at : new int[][] {{-1, 0}, {2, 0}, {0, -1}, {0, 2}, {MIN, 0}, {0, MAX}}) {
            is(x, BAD, "table", 0, at[0], at[1]);
        }
        for (long v : new long[] {Long.MIN_VALUE, Long.MAX_VALUE, Long.MIN_VALUE + 1, MIN, MAX, -1, 97, -97, 0}) {
            Asking.sheet(x, 1, 1, v);
            is(x, BigInteger.valueOf(v).multiply(BigInteger.TWO).mod(BigInteger.valueOf(97)).longValue(), "table", 1, 0, 1);
        }
        says("HALF: half of the RANK of the TABLE's rows by rests.");
        PairsStand y = Asking.sheet(Asking.edges(7, 6, 0, 1, 2, 3, 4, 5), 0, 1, 7, -7, 14);
        is(y, 0, "half", 0);
        for (int p = 0; p < 3; p++) {
            is(y, 1, "cell", 0, p, Long.MIN_VALUE);
            is(y, p + 1, "half", 0);
        }
        is(y, 7, "field", 7, 5);
        is(y, 2, "half", 0);
        is(y, 7, "field", 7, 1);
        is(y, 0, "half", 0);
        is(y, 7, "field", 2, 6);
        is(y, 0, "half", 0);
    }

    /** Two that cross turn the sign of a matching of the places. */
    private static int signOf(int[] ends) {
        int sign = 1;
        for (int k = 0; k < ends.length; k += 2) {
            for (int o = k + 2; o < ends.length; o += 2) {
                boolean one = ends[k] < ends[o] && ends[o] < ends[k + 1];
                boolean other = ends[k] < ends[o + 1] && ends[o + 1] < ends[k + 1];
                sign = one != other ? -sign : sign;
            }
        }
        return sign;
    }

    private static void roots() {
        says("ROOT of the TABLE in whole numbers (no rests but in the ROWS; WIDE is even; of no places it is 1):");
        PairsStand x = Asking.sheet(Asking.edges(97, 2, 0, 1), 0, 1, 1000);
        is(x, 1000, "root", 0);
        is(x, 1, "entry", 0, 0, 0, -1);
        is(x, 96000, "root", 0);
        for (int wide = 1; wide <= 6; wide++) {
            is(x, 97, "field", 97, wide);
            is(x, wide % 2 == 1 ? STATE : wide == 2 ? 96000 : 0, "root", 0);
        }
        is(Asking.sheet(Asking.field(7, 2), 0, 0), 0, "root", 0);
        says("of what is left of its places, the first one i with each other one j, from the second on, by turns added and taken "
            + "away, the first added: the number at i, j times the ROOT of what is left without i and j.");
        int[][] fours = {{0, 1, 2, 3}, {0, 2, 1, 3}, {0, 3, 1, 2}};
        for (int[] ends : fours) {
            is(Asking.sheet(Asking.edges(97, 4, ends), 0, 0, 2, 3), 6 * signOf(ends), "root", 0);
        }
        int[][] sixes = {{0, 1, 2, 3, 4, 5}, {0, 1, 2, 4, 3, 5}, {0, 1, 2, 5, 3, 4}, {0, 2, 1, 3, 4, 5}, {0, 2, 1, 4, 3, 5},
            {0, 2, 1, 5, 3, 4}, {0, 3, 1, 2, 4, 5}, {0, 3, 1, 4, 2, 5}, {0, 3, 1, 5, 2, 4}, {0, 4, 1, 2, 3, 5}, {0, 4, 1, 3, 2, 5},
            {0, 4, 1, 5, 2, 3}, {0, 5, 1, 2, 3, 4}, {0, 5, 1, 3, 2, 4}, {0, 5, 1, 4, 2, 3}};
        for (int[] ends : sixes) {
            PairsStand six = Asking.sheet(Asking.edges(97, 6, ends), 0, 0, 2, 3, -5);
            is(six, -30 * signOf(ends), "root", 0);
            is(six, 1, "cell", 0, 0, 0);
            is(six, 0, "root", 0);
        }
        PairsStand four = Asking.edges(97, 4, 0, 1, 0, 2, 0, 3, 1, 2, 1, 3, 2, 3);
        is(Asking.sheet(four, 0, 0, 1, 10, 100, 1000, 10000, 100000), 100000 - 100000 + 100000, "root", 0);
        for (int signs = 0; signs < 64; signs++) {
            long[] cells = {2, 9, 3, 50, 7, 4};
            for (int k = 0; k < 6; k++) {
                cells[k] = (signs >> k & 1) == 1 ? -cells[k] : cells[k];
            }
            PairsStand signed = Asking.edges(97, 4, 0, 1, 0, 2, 0, 3, 1, 2, 1, 3, 2, 3);
            is(Asking.sheet(signed, 0, 1, cells), cells[0] * cells[5] - cells[1] * cells[4] + cells[2] * cells[3], "root", 0);
        }
    }

    private static void rootNumbers() {
        says("It is made so: of each number of the TABLE at i, j, i less than j, for PAIRS 0, 1, .. : x times (the difference), added "
            + "up from 0;");
        long max = Long.MAX_VALUE;
        long min = Long.MIN_VALUE;
        long[][] cells = {{max, min, 1}, {max, 1, min}, {min, max, -1}, {min, -1, max}, {1, max, min}, {1, min, max}, {max, -max, 0},
            {min, 0, max}, {-1, min, max}};
        long[] sums = {0, MUCH, -2, MUCH, MUCH, 0, 0, -1, MUCH};
        for (int k = 0; k < sums.length; k++) {
            is(Asking.sheet(Asking.edges(97, 2, 0, 1, 0, 1, 0, 1), 0, 1, cells[k]), sums[k], "root", 0);
        }
        says("is a product, a sum or a difference (in longs) beyond 64 bits, it is MUCH;");
        PairsStand product = Asking.edges(97, 2, 0, 1, 0, 1, 1, 0);
        is(product, 1, "entry", 0, 0, 0, 2);
        long[][] times = {{1L << 62, 0, 0}, {-1L << 62, max, 0}, {max, 0, 0}, {(1L << 62) - 1, min, 0}, {0, 0, min}, {0, max, max},
            {0, min, -max}, {-(1L << 62) - 1, max, 0}};
        long[] products = {MUCH, -1, MUCH, -2, MUCH, 0, -1, MUCH};
        for (int k = 0; k < products.length; k++) {
            is(Asking.sheet(product, 0, 1, times[k]), products[k], "root", 0);
        }
        says("one of these numbers of the TABLE that is no int, too.");
        PairsStand x = Asking.edges(97, 4, 0, 1, 2, 3, 2, 3);
        long[][] ints = {{MAX, 1, 0}, {MIN, 1, 0}, {MAX + 1L, 1, 0}, {MIN - 1L, 1, 0}, {0, MAX + 1L, 0}, {0, MIN - 1L, 0}, {0, MAX, 1},
            {0, MIN, -1}, {1, MAX + 1L, -1}, {1, MIN - 1L, 1}, {1, MAX, MIN}};
        long[] due = {MAX, MIN, MUCH, MUCH, MUCH, MUCH, MUCH, MUCH, MAX, MIN, -1};
        for (int k = 0; k < due.length; k++) {
            is(Asking.sheet(x, 0, 1, ints[k]), due[k], "root", 0);
        }
        Asking.sheet(x, 0, 1, 4, max, min);
        is(x, -4, "root", 0);
        is(x, 97, "field", 97, 2);
        is(x, 4, "root", 0);
    }

    private static void rootSums() {
        says("then of ROOTS, likewise added up from 0 in order;");
        PairsStand four = Asking.edges(97, 4, 0, 1, 0, 2, 0, 3, 1, 2, 1, 3, 2, 3);
        long[][] cells = {{MIN, MIN, MAX, 1, MAX, MIN}, {MIN, MIN, MIN, -1, MAX, MIN}, {MIN, MIN, MIN, 1, MIN, MAX},
            {MIN, MIN, 3, -715827883, MIN, MAX}};
        long[] fours = {Long.MAX_VALUE, MUCH, Long.MIN_VALUE, MUCH};
        for (int k = 0; k < fours.length; k++) {
            is(Asking.sheet(four, 0, 0, cells[k]), fours[k], "root", 0);
        }
        PairsStand six = Asking.edges(97, 6, 0, 1, 2, 3, 4, 5, 0, 2, 1, 3, 0, 3, 1, 2);
        long much = 1 << 20;
        long[][] told = {{-(1 << 23), much, much, 0, 0, 0, 0}, {1 << 23, much, much, 0, 0, 0, 0}, {-(1 << 23), much, much, -1, 1, 0, 0},
            {-(1 << 23), much, much, 1, 1, 0, 0}, {-(1 << 23), much, much, 1, 1, 1, 1}, {(1 << 23) - 1, much, much, -1, much, 0, 0},
            {(1 << 23) - 1, much, much, -1, much - 1, 0, 0}, {(1 << 23) - 1, much, much, -1, much - 1, 1, 1},
            {(1 << 23) - 1, much, much, -1, much, -1, 1}};
        long[] sixes = {Long.MIN_VALUE, MUCH, Long.MIN_VALUE + much, MUCH, MUCH, MUCH, Long.MAX_VALUE - much + 1, MUCH, MUCH};
        for (int k = 0; k < sixes.length; k++) {
            is(Asking.sheet(six, 0, 0, told[k]), sixes[k], "root", 0);
        }
        PairsStand left = Asking.edges(97, 6, 2, 3, 2, 4, 2, 5, 3, 4, 3, 5, 4, 5);
        is(Asking.sheet(left, 0, 0, cells[0]), 0, "root", 0);
        is(Asking.sheet(left, 0, 0, cells[1]), MUCH, "root", 0);
    }

    private static void draws() {
        says("DRAW of z: z becomes z * 1103515245 + 12345 (an int), and gives z >>> 8.");
        BigInteger around = BigInteger.ONE.shiftLeft(32);
        int[] seeds = {0, 1, -1, 2, 7, 99, 12345, -12345, MIN, MAX, MIN + 1, MAX - 1, 1 << 30, -(1 << 30), 0x55555555, 0xAAAAAAAA};
        for (int q : PRIMES) {
            PairsStand x = Asking.edges(q, 2, 0, 1);
            for (int seed : seeds) {
                BigInteger z = BigInteger.valueOf(seed);
                int like = 0;
                for (int n = 1; n <= 20; n++) {
                    z = z.multiply(BigInteger.valueOf(1103515245)).add(BigInteger.valueOf(12345)).mod(around);
                    like += z.shiftRight(8).mod(BigInteger.valueOf(q)).signum();
                    if (n < 7 || n == 20) {
                        is(x, like, "sure", seed, n);
                        is(x, like > 0 ? 1 : 0, "claim", seed, n);
                    }
                }
            }
        }
    }

    private static void covers() {
        says("COVER by AXES (bits of 0 .. WIDE - 1) and classes: how many AXES there are, and for each class half (cut) of by how much "
            + "RANK of the ROWS of all its PAIRS and of the AXES (a ROW with 1 at that place, else 0) is more than how many AXES there "
            + "are, together.");
        for (int wide = 1; wide <= 6; wide++) {
            PairsStand none = Asking.sheet(Asking.field(7, wide), 0, 0);
            is(none, 0, "cover", 0, 0);
            is(none, 1, "cover", 0, 1 << wide - 1);
            is(none, wide, "cover", 0, (1 << wide) - 1);
            is(none, BAD, "cover", 0, 1 << wide);
            is(none, BAD, "cover", 0, -1);
            is(none, BAD, "cover", 0, MIN);
        }
        PairsStand ten = Asking.sheet(full(), 0, 0, 1, 1, 1, 1, 1, 1, 1, 1, 1, 1);
        is(ten, 3, "cover", 0, 0);
        is(ten, 1 + 2, "cover", 0, 1);
        is(ten, 2 + 2, "cover", 0, 3);
        is(ten, 6, "cover", 0, 63);
        Asking.sheet(ten, 0, 0);
        is(ten, 10, "cover", 0, 0);
        is(ten, 1 + 5, "cover", 0, 1);
        is(ten, 2 + 1, "cover", 0, 3);
        says("All numbers are whole.");
        PairsStand odd = Asking.sheet(Asking.edges(7, 3, 0, 1, 1, 2, 0, 2), 0, 0, 1, 1, 1);
        is(odd, 1, "cover", 0, 0);
        is(odd, 1 + 1, "cover", 0, 4);
        is(odd, 2 + 0, "cover", 0, 5);
    }

    // ---- 3

    private static void rays() {
        says("A RAY: a ROW that isn't all 0, each number divided by the first that isn't 0 (so that this is 1).");
        for (int q : new int[] {2, 3, 97}) {
            PairsStand x = Asking.field(q, 2);
            is(x, 0, "pair", 0, 0);
            is(x, 0, "rays");
            is(x, NONE, "rayOf", 0, 0);
            for (int v = 1; v < q; v++) {
                Asking.rows(x, 0, new int[] {0, v}, new int[] {v, 0});
                is(x, 1, "ray", 0);
            }
            is(x, q, "ray", 1);
            is(x, PLACE, "ray", 2);
        }
        PairsStand y = Asking.field(7, 3);
        is(y, 0, "pair", 0, 0);
        Asking.rows(y, 0, new int[] {0, 3, 5}, new int[] {-7, 7, 14});
        is(y, 11, "ray", 0);
        is(y, NONE, "rayOf", 0, 1);
        says("RAYS: those of all ROWS of all PAIRS, each once, in order: by number 0, of like ones by number 1, .. .");
        PairsStand many = Asking.field(97, 6);
        for (int p = 0; p < 10; p++) {
            is(many, p, "pair", 0, 0);
            is(many, 0, "entry", p, 0, 0, 1);
            is(many, 0, "entry", p, 0, 5, 9 - p);
            is(many, 0, "entry", p, 1, p % 6, 50);
            if (p < 5) {
                is(many, 0, "entry", p, 1, 5, 50);
            }
        }
        is(many, 18, "rays");
        long[] codes = {1, 98, 9409, 9410, 912673, 912674, 88529281, 88529282};
        for (int k = 0; k < 18; k++) {
            is(many, k < 8 ? codes[k] : 8587340257L + k - 8, "ray", k);
        }
        is(many, PLACE, "ray", 18);
        PairsStand twenty = Asking.field(97, 2);
        for (int p = 0; p < 10; p++) {
            is(twenty, p, "pair", 0, 0);
            Asking.rows(twenty, p, new int[] {1, 19 - p}, new int[] {2, 2 * p});
        }
        is(twenty, 20, "rays");
        for (int k = 0; k < 20; k++) {
            is(twenty, 97 + k, "ray", k);
        }
        is(twenty, PLACE, "ray", 20);
    }

    private static void names() {
        says("A NAME has 1 to 7 letters a .. z; told by a long: its bytes, from the highest on, are letters, till a byte 0 (all behind "
            + "it are 0, too).");
        PairsStand x = Asking.edges(7, 4, 0, 1);
        for (int letters = 0; letters <= 8; letters++) {
            boolean fits = letters >= 1 && letters <= 7;
            is(x, fits ? 1 : BAD, "name", 0, Asking.text("aaaaaaaa".substring(0, letters)));
            is(x, fits ? 1 : BAD, "name", 0, Asking.text("zzzzzzzz".substring(0, letters)));
            is(x, fits ? 0 : BAD, "named", Asking.text("zzzzzzzz".substring(0, letters)));
        }
        int[] signs = {1, 31, 'A', 'Z', 'a' - 1, 'z' + 1, 127, 128, 'a' + 128, 'z' + 128, 255};
        for (int place = 0; place < 7; place++) {
            long others = Asking.text("mmmmmmm") & ~(255L << 56 - 8 * place);
            for (int sign : signs) {
                is(x, BAD, "name", 0, others | (long) sign << 56 - 8 * place);
            }
            is(x, 1, "name", 0, others | (long) 'a' << 56 - 8 * place);
            is(x, 1, "name", 0, others | (long) 'z' << 56 - 8 * place);
            is(x, place == 6 ? 1 : BAD, "name", 0, others);
        }
        for (int place = 1; place < 8; place++) {
            is(x, place == 1 ? 1 : BAD, "name", 0, Asking.text("a") | (long) 'b' << 56 - 8 * place);
            is(x, BAD, "name", 0, Asking.text("a") | 1L << 56 - 8 * place);
        }
        for (long v : new long[] {0, 1, -1, Long.MIN_VALUE, Long.MAX_VALUE, 'a'}) {
            is(x, BAD, "name", 0, v);
            is(x, BAD, "named", v);
        }
    }

    private static void nets() {
        says("THE NET has 8 POINTS, 3 LINES at most at each, one for two at most.");
        PairsStand x = Asking.net(0, 1, 2, 3, 4, 5, 6, 7, 0, 2, 1, 3, 4, 6, 5, 7, 0, 4, 1, 5, 2, 6, 3, 7);
        is(x, 12, "count", 4);
        for (int a = 0; a < 8; a++) {
            for (int b = 0; b < 8; b++) {
                int lines = Integer.bitCount(a ^ b);
                is(x, lines == 0 ? BAD : lines == 1 ? 1 : STATE, "link", a, b, 1);
            }
            is(x, BAD, "link", a, 8, 1);
            is(x, BAD, "link", -1, a, 1);
        }
        is(x, 12, "count", 4);
        PairsStand y = Asking.net(0, 1, 0, 2);
        is(y, 0, "link", 3, 0, 1);
        is(y, STATE, "link", 4, 0, 1);
        is(y, 1, "link", 1, 0, 1);
        is(y, 3, "count", 4);
        is(y, 1, "link", 1, 0, 0);
        is(y, 0, "link", 4, 0, 1);
        is(y, STATE, "link", 0, 1, 1);
    }

    private static void rings() {
        says("A SET of POINTS BREAKS it, if there is no ring among the others (a ring: three POINTS or more, each with a LINE to the "
            + "next, the last with one to the first, none twice).");
        is(Asking.made(), 1, "breaks", 0);
        is(Asking.net(0, 7), 1, "breaks", 0);
        for (int points = 3; points <= 8; points++) {
            int[] ends = new int[2 * points];
            for (int k = 0; k < points; k++) {
                ends[2 * k] = 3 * k % 8;
                ends[2 * k + 1] = 3 * ((k + 1) % points) % 8;
            }
            PairsStand ring = Asking.net(ends);
            is(ring, 0, "breaks", 0);
            int of = 0;
            for (int k = 0; k < points; k++) {
                of |= 1 << ends[2 * k];
            }
            is(ring, 0, "breaks", 255 & ~of);
            for (int p = 0; p < 8; p++) {
                is(ring, of >> p & 1, "breaks", 1 << p);
            }
            is(ring, 1, "breaks", 255);
            is(ring, 1, "feedback", 0);
            is(ring, points, "feedback", 2);
            is(ring, 1, "link", ends[0], ends[1], 0);
            is(ring, 1, "breaks", 0);
        }
        PairsStand tree = Asking.net(0, 1, 1, 2, 1, 3, 3, 4, 3, 5, 5, 6, 5, 7);
        is(tree, 1, "breaks", 0);
        PairsStand two = Asking.net(0, 1, 1, 2, 2, 0, 5, 6, 6, 7, 7, 5, 0, 5);
        is(two, 0, "breaks", 1);
        is(two, 0, "breaks", bits(5, 6, 7));
        is(two, 1, "breaks", bits(2, 6));
    }

    private static void sheets() {
        says("SHEETS 0 .. 3 are rows of 0 to 30 numbers: of sort 0 ints, 1 longs, or missing (-1; at first).");
        for (int s = -1; s <= 4; s++) {
            boolean has = s >= 0 && s < 4;
            for (int n : new int[] {0, 1, 30}) {
                PairsStand x = Asking.made();
                is(x, has ? NOTHING : BAD, "read", s, 0);
                for (int sort = -2; sort <= 2; sort++) {
                    boolean fits = has && sort >= -1 && sort <= 1;
                    is(x, fits ? 1 : BAD, "sheet", s, sort, n);
                    is(x, fits && sort >= 0 ? BAD : fits ? 1 : BAD, "sheet", s, sort, 31);
                    is(x, fits && sort >= 0 ? SIZE : fits ? 1 : BAD, "sheet", s, sort, -1);
                    if (fits && sort >= 0) {
                        for (int i = 0; i < n; i++) {
                            is(x, 0, "read", s, i);
                            is(x, 1, "cell", s, i, (long) MIN + i);
                        }
                        is(x, PLACE, "read", s, n);
                        is(x, n == 0 ? PLACE : sort == 0 ? MUCH : 1, "cell", s, n - 1, Long.MIN_VALUE);
                    }
                }
            }
        }
    }

    private static void hands() {
        says("HANDS 0 .. 3 each hold nothing (sort 0; at first), a PAIR (1; KIND, WEIGHT, A, B as they were), a RAY (2; as it was).");
        PairsStand x = Asking.edges(7, 4, 0, 1);
        is(x, 0, "set", 0, 0, 3);
        for (int hand = -1; hand <= 4; hand++) {
            boolean has = hand >= 0 && hand < 4;
            is(x, has ? NOTHING : BAD, "asPair", hand, 0);
            is(x, has ? 0 : BAD, "hold", hand, 1, 0);
            is(x, has ? 1 : BAD, "asPair", hand, 3);
            is(x, has ? 1 : BAD, "hold", hand, 2, 0);
            is(x, has ? 1 : BAD, "asRay", hand, 0);
            is(x, has ? 2 : BAD, "hold", hand, 0, 77);
            is(x, has ? NOTHING : BAD, "asRay", hand, 1);
        }
        is(x, 0, "hold", 0, 1, 0);
        is(x, 0, "hold", 1, 2, 1);
        is(x, 3, "set", 0, 0, 5);
        is(x, 1, "set", 0, 1, 77);
        is(x, 1, "entry", 0, 0, 0, 0);
        is(x, 7, "field", 2, 1);
        is(x, 0, "drop");
        is(x, 1, "asPair", 0, 3);
        is(x, KIND, "asPair", 0, 5);
        int[] ray = {1, 4, 0, 0};
        for (int i = 0; i < 4; i++) {
            is(x, ray[i], "asRay", 1, i);
        }
        is(x, PLACE, "asRay", 1, 4);
    }

    private static void image() {
        says("AN IMAGE keeps PRIME, WIDE, PAIRS with all they have, THE NET.");
        PairsStand x = full();
        is(x, 0, "link", 0, 7, 1);
        is(x, 10, "image");
        is(x, 97, "field", 2, 1);
        is(x, 1, "link", 0, 7, 0);
        is(x, 0, "link", 1, 7, 1);
        is(x, 1, "unname", 9);
        is(x, 0, "set", 9, 0, 5);
        is(x, 1, "set", 9, 1, 0);
        is(x, 1, "entry", 9, 0, 2, 3);
        for (int p = 9; p > 0; p--) {
            is(x, p, "drop");
        }
        is(x, 10, "back");
        PairsStand y = full();
        is(y, 0, "link", 0, 7, 1);
        List<String> due = Asking.kept(y);
        Asking.same("back", Asking.kept(x), due);
        PairsStand outside = rich();
        is(outside, 1, "back");
        is(outside, 7, "read", 0, 2);
        is(outside, 7, "asPair", 0, 4);
        is(outside, 0, "asRay", 1, 0);
        is(outside, 5, "count", 1);
        is(outside, 3, "count", 2);
        is(outside, Asking.text("old"), "nameAt", 0);
    }

    // ---- what bounds what

    /** Some PAIRS that often share what they are made of, so that the bounds are met from below and from above. */
    private static PairsStand drawn(Random random) {
        int[] primes = {2, 3, 7, 97};
        PairsStand x = Asking.field(primes[random.nextInt(4)], 1 + random.nextInt(6));
        int pairs = random.nextInt(11);
        for (int p = 0; p < pairs; p++) {
            Asking.ask(x, "pair", random.nextInt(6), random.nextInt(4));
            for (int k = 0; k < 4; k++) {
                Asking.ask(x, "entry", p, k / 2, random.nextInt(6), random.nextInt(3) - 1);
            }
        }
        return Asking.sheet(x, 0, 1, random.nextInt(9), random.nextInt(9), random.nextLong(), -1, random.nextInt(3), 1, 1);
    }

    private static void notAbove(String what, long low, long high) {
        Asking.due(what + ": " + low + " is not above " + high, low <= high ? 1 : 0, 1);
    }

    private static void bounds() {
        Random random = new Random(45);
        for (int run = 0; run < 300; run++) {
            PairsStand x = drawn(random);
            long most = Asking.ask(x, "most");
            Asking.says("What it is", "skew tables of told and of drawn numbers, whose half rank is never above the most;");
            notAbove("half", Asking.ask(x, "half", 0), most);
            notAbove("claim", Asking.ask(x, "claim", run, 20), most);
            Asking.says("What it is", "covers that bound the most;");
            notAbove("one class", most, Asking.ask(x, "cheap", 0, 0));
            notAbove("own classes", most, Asking.ask(x, "cheap", 1, 0));
            long wide = Asking.ask(x, "count", 2);
            for (int axes = 0; axes < 1 << wide; axes += 5) {
                notAbove("cover", most, Asking.ask(x, "cover", 0, axes));
            }
            Asking.says("What it is", "the most that stand, the heaviest, the greedy ones out of a queue, those that are bettered by two for one;");
            int taken = (int) Asking.ask(x, "greedy", 0);
            int bettered = (int) Asking.ask(x, "better", taken);
            is(x, 1, "stands", taken);
            is(x, 1, "stands", bettered);
            is(x, 1, "stands", (int) Asking.ask(x, "best", 0));
            is(x, 1, "stands", (int) Asking.ask(x, "heavy", 0));
            notAbove("greedy", Integer.bitCount(taken), Integer.bitCount(bettered));
            notAbove("bettered", Integer.bitCount(bettered), most);
            notAbove("greedy", Asking.ask(x, "greedy", 1), Asking.ask(x, "heavy", 1));
            Asking.due("best", Integer.bitCount((int) Asking.ask(x, "best", 0)), most);
            Asking.says("What it is", "rays that are unlike, in order;");
            long rays = Asking.ask(x, "rays");
            for (int k = 1; k < rays; k++) {
                notAbove("ray", Asking.ask(x, "ray", k - 1) + 1, Asking.ask(x, "ray", k));
            }
        }
    }
}
