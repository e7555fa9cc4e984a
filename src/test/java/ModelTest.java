import java.lang.reflect.Method;
import java.math.BigInteger;
import java.util.ArrayList;
import java.util.Arrays;
import java.util.Collections;
import java.util.Comparator;
import java.util.HashMap;
import java.util.List;
import java.util.Map;
import java.util.Random;
import java.util.TreeMap;
import java.util.TreeSet;

/**
 * Long runs of drawn calls, on an object and on a model that is written from the document by itself, in
 * other ways (full elimination, whole numbers without bounds, rings that are walked, texts as names): each
 * answer must be the same, up to the last call that the document lets an object be used for. The last ones
 * are drawn of all that can be asked then. The draws have fixed seeds.
 */
public final class ModelTest {
    private static final int RUNS = 1500, CALLS = 512, CHANGING = 380;
    private static final Map<String, String> ARGUMENTS = arguments();
    private static final List<Method> CALLS_OF_CLASS = calls();
    private static final List<String> QUESTIONS = List.of("told", "number", "named", "nameAt", "rank", "stands", "most", "best", "heavy",
        "queue", "greedy", "better", "table", "half", "root", "claim", "sure", "cover", "cheap", "rays", "ray", "rayOf", "breaks",
        "feedback", "asPair", "asRay", "compare", "read", "count");
    private static final Map<String, Integer> ANSWERED = new TreeMap<>();
    private static final Map<Class<?>, Map<String, Method>> FOUND = new HashMap<>();
    private static int wrong = 0;

    public static void main(String[] args) throws Exception {
        for (int run = 0; run < RUNS && wrong == 0; run++) {
            new Run(run).go();
        }
        if (wrong == 0) {
            sawEveryAnswer();
        }
        System.out.println(wrong == 0 ? "model: all answers are as due" : "model: answers are not as due");
        if (wrong != 0) {
            System.exit(1);
        }
    }

    /** A draw that never comes to a refusal that the document names would test nothing of it. */
    private static void sawEveryAnswer() {
        String[] wanted = {
            "field -2", "divided -2", "pair -2", "pair -4", "entry -2", "set -2", "told -2", "told -1", "number -2",
            "drop -3", "name -2", "name -3", "name 1", "named -2", "named -1", "named 0", "unname -2", "unname 0",
            "unname 1", "nameAt -12", "rank -2", "rank 6", "stands -2", "stands 0", "stands 1", "most 0", "most 1",
            "most 2", "most 3", "best -2", "heavy -2", "queue -12", "greedy -2", "better -2", "better -3",
            "table -2", "table -11", "half -2", "half -11", "half 0", "half 1", "half 2", "half 3", "root -2",
            "root -11", "root -3", "root -5", "claim -2", "claim 3", "sure -2", "sure 0", "sure 20", "cover -2",
            "cover -11", "cheap -2", "rays 0", "ray -12", "rayOf -2", "rayOf -1", "link -2", "link -3", "link 0",
            "link 1", "breaks -2", "breaks 0", "breaks 1", "feedback -2", "hold -2", "hold 0", "hold 1", "hold 2",
            "asPair -2", "asPair -11", "asPair -13", "asRay -2", "asRay -11", "asRay -13", "asRay -12", "compare -2",
            "compare -11", "compare -13", "compare -1", "compare 0", "compare 1", "sheet -2", "sheet -14", "sheet 1",
            "cell -2", "cell -11", "cell -12", "cell -5", "cell 1", "read -2", "read -11", "read -12", "load -2",
            "load -11", "load -12", "load 12", "back -3", "back 10", "image 10", "count -2"};
        for (String answer : wanted) {
            if (!ANSWERED.containsKey(answer)) {
                wrong++;
                System.out.println("no drawn call came to: " + answer);
            }
        }
    }

    private static List<Method> calls() {
        List<Method> all = new ArrayList<>();
        for (Method m : PairsStand.class.getDeclaredMethods()) {
            if (java.lang.reflect.Modifier.isPublic(m.getModifiers())) {
                all.add(m);
            }
        }
        all.sort(Comparator.comparing(Method::getName));
        return all;
    }

    private static Map<String, Method> byName(Class<?> face) {
        Map<String, Method> all = new HashMap<>();
        for (Method m : face.getDeclaredMethods()) {
            if (java.lang.reflect.Modifier.isPublic(m.getModifiers())) {
                m.setAccessible(true);
                all.put(m.getName(), m);
            }
        }
        return all;
    }

    private static Map<String, String> arguments() {
        Map<String, String> of = new HashMap<>();
        String[] lines = {
            "field prime wide", "divided int int", "pair kind weight", "entry pair bit six entry", "set pair bit kindOrWeight",
            "told pair five", "number pair bit six", "drop", "name pair name", "named name", "unname pair", "nameAt place",
            "rank set", "stands set", "most", "best four", "heavy bit", "queue place", "greedy bit", "better small",
            "table sheet six six", "half sheet", "root sheet", "claim int tables", "sure int tables", "cover sheet axes",
            "cheap bit bit", "rays", "ray rayPlace", "rayOf pair bit", "link point point bit", "breaks points", "feedback three",
            "hold hand handSort holdPlace", "asPair hand kind", "asRay hand six", "compare hand hand", "sheet sheet sheetSort length",
            "cell sheet cellPlace long", "read sheet cellPlace", "load sheet pair from", "image", "back", "count five"};
        for (String line : lines) {
            int gap = line.indexOf(' ');
            of.put(gap < 0 ? line : line.substring(0, gap), gap < 0 ? "" : line.substring(gap + 1));
        }
        return of;
    }

    /** One run: what is drawn often differs from run to run, so that full, flat and narrow states all come. */
    private static final class Run {
        final int number;
        final Random random;
        final PairsStand real = new PairsStand();
        final Model model = new Model();
        final StringBuilder told = new StringBuilder();
        final int entryBound, cellStyle, manyPairs;
        final boolean smallPrimes, keepsField;
        int used = 0;

        Run(int number) {
            this.number = number;
            random = new Random(7919L * number + 1);
            entryBound = new int[] {1, 2, 5, 99}[random.nextInt(4)];
            cellStyle = random.nextInt(4);
            manyPairs = random.nextInt(11);
            smallPrimes = random.nextBoolean();
            keepsField = random.nextInt(3) > 0;
        }

        void go() throws Exception {
            if (keepsField) {
                call("field", prime(), random.nextBoolean() ? 6 : 1 + random.nextInt(6));
            }
            for (int p = 0; p < manyPairs; p++) {
                call("pair", random.nextInt(6), random.nextInt(4));
                for (int i = 0; i < 12; i++) {
                    call("entry", p, i / 6, i % 6, entry());
                }
            }
            for (int s = 0; s < 2; s++) {
                call("sheet", s, s, 6 + random.nextInt(15));
                for (int i = 0; i < 12; i++) {
                    call("cell", s, i, cell());
                }
            }
            while (used < CHANGING && wrong == 0) {
                Method m = CALLS_OF_CLASS.get(random.nextInt(CALLS_OF_CLASS.size()));
                if (!skipped(m.getName())) {
                    call(m.getName(), drawn(m.getName()));
                }
            }
            while (used < CALLS && wrong == 0) {
                String question = QUESTIONS.get(random.nextInt(QUESTIONS.size()));
                call(question, drawn(question));
            }
        }

        /** These would empty or unsettle a run, if they came as often as the others. */
        boolean skipped(String name) {
            boolean unsettles = name.equals("drop") || name.equals("back") || name.equals("field") && keepsField;
            boolean adds = name.equals("pair") && model.pairs.size() > manyPairs;
            return (unsettles || adds) && random.nextInt(6) > 0;
        }

        Object[] drawn(String name) {
            String[] kinds = ARGUMENTS.get(name).isEmpty() ? new String[0] : ARGUMENTS.get(name).split(" ");
            Object[] values = new Object[kinds.length];
            for (int i = 0; i < kinds.length; i++) {
                values[i] = value(kinds[i]);
            }
            return values;
        }

        Object value(String kind) {
            switch (kind) {
                case "prime": return prime();
                case "wide": return around(1, 6);
                case "int": return random.nextInt(3) == 0 ? random.nextInt() : random.nextInt(201) - 100;
                case "kind": return around(0, 5);
                case "weight": return random.nextInt(3) == 0 ? around(0, 999) : random.nextInt(4);
                case "kindOrWeight": return random.nextInt(3) == 0 ? around(0, 999) : random.nextInt(7);
                case "pair": return around(0, Math.max(0, model.pairs.size() - 1));
                case "bit": return around(0, 1);
                case "three": return around(0, 2);
                case "four": return around(0, 3);
                case "five": return around(0, 4);
                case "six": return around(0, 5);
                case "entry": return random.nextInt(20) == 0 ? around(-99, 99) : entry();
                case "name": return name();
                case "place": return around(0, Math.max(0, model.pairs.size() - 1));
                case "set": return around(0, (1 << model.pairs.size()) - 1);
                case "small": return random.nextBoolean() ? value("set") : model.standingSome(random);
                case "sheet": return around(0, 3);
                case "tables": return around(1, 20);
                case "axes": return around(0, (1 << model.wide) - 1);
                case "rayPlace": return around(0, Math.max(0, model.rays() - 1));
                case "point": return around(0, 7);
                case "points": return around(0, 255);
                case "hand": return around(0, 3);
                case "handSort": return around(0, 2);
                case "holdPlace": return random.nextBoolean() ? value("rayPlace") : value("pair");
                case "sheetSort": return random.nextBoolean() ? around(-1, 1) : random.nextInt(2);
                case "length": return random.nextBoolean() ? around(0, 30) : random.nextInt(14);
                case "cellPlace": return random.nextBoolean() ? around(0, 29) : random.nextInt(10);
                case "long": return cell();
                case "from": return around(0, 19);
                default: throw new IllegalStateException(kind);
            }
        }

        int around(int low, int high) {
            int way = random.nextInt(24);
            switch (way) {
                case 0: return low - 1;
                case 1: return high + 1;
                case 2: return new int[] {Integer.MIN_VALUE, Integer.MAX_VALUE, -1, 1 << 30}[random.nextInt(4)];
                case 3: return high;
                default: return low + random.nextInt(high - low + 1);
            }
        }

        int prime() {
            int[] few = {2, 3, 5, 7};
            int[] all = {2, 3, 5, 7, 11, 13, 17, 19, 23, 29, 31, 37, 41, 43, 47, 53, 59, 61, 67, 71, 73, 79, 83, 89, 97};
            if (random.nextInt(8) == 0) {
                return around(0, 98);
            }
            return smallPrimes ? few[random.nextInt(few.length)] : all[random.nextInt(all.length)];
        }

        int entry() {
            return random.nextInt(2 * entryBound + 1) - entryBound;
        }

        long name() {
            int letters = random.nextInt(9);
            long v = 0;
            for (int i = 0; i < letters && i < 8; i++) {
                int sign = random.nextInt(40) == 0 ? new int[] {0, 96, 123, 'A', 255}[random.nextInt(5)] : 'a' + random.nextInt(2);
                if (random.nextInt(12) == 0) {
                    sign = 'z';
                }
                v |= (long) sign << 56 - 8 * i;
            }
            return random.nextInt(30) == 0 ? random.nextLong() : v;
        }

        long cell() {
            long[] edges = {Integer.MAX_VALUE, Integer.MIN_VALUE, Integer.MAX_VALUE + 1L, Integer.MIN_VALUE - 1L,
                Long.MAX_VALUE, Long.MIN_VALUE, Long.MAX_VALUE - 1, -1, 0, 1};
            switch (random.nextInt(6) == 0 ? random.nextInt(4) : cellStyle) {
                case 0: return random.nextInt(7) - 3;
                case 1: return random.nextInt(200001) - 100000;
                case 2: return random.nextInt() >> random.nextInt(20);
                default: return random.nextBoolean() ? edges[random.nextInt(edges.length)] : random.nextLong() >> random.nextInt(60);
            }
        }

        void call(String name, Object... values) throws Exception {
            if (wrong != 0) {
                return;
            }
            used++;
            String text = name + Arrays.toString(values);
            long got = ask(real, PairsStand.class, name, values);
            long due = ask(model, Model.class, name, values);
            told.append(text).append(" = ").append(got).append('\n');
            ANSWERED.merge(name + " " + due, 1, Integer::sum);
            if (got != due) {
                wrong++;
                System.out.println(told + "run " + number + ": " + text + " answered " + got + ", due is " + due);
            }
        }

        static long ask(Object of, Class<?> face, String name, Object[] values) throws Exception {
            return ((Number) FOUND.computeIfAbsent(face, ModelTest::byName).get(name).invoke(of, values)).longValue();
        }
    }

    private static class One {
        int kind, weight;
        String name;
        int[] a = new int[6], b = new int[6];

        One copy() {
            One c = new One();
            c.kind = kind;
            c.weight = weight;
            c.name = name;
            c.a = a.clone();
            c.b = b.clone();
            return c;
        }
    }

    /** The KINDS as a tree, each with what it says of the one that it is under. */
    private static class PairRows {
        One of;
        Model model;

        int[] first() {
            return model.rests(of.a);
        }

        int[] second() {
            return model.rests(of.b);
        }
    }

    private static class SumRows extends PairRows {
        @Override int[] second() {
            return model.added(super.second(), super.first());
        }
    }

    private static class TurnRows extends PairRows {
        @Override int[] first() {
            return super.second();
        }

        @Override int[] second() {
            return super.first();
        }
    }

    private static class TwiceRows extends SumRows {
        @Override int[] second() {
            return model.added(super.second(), super.first());
        }
    }

    private static class LowRows extends TurnRows {
        @Override int[] first() {
            int[] row = super.first();
            row[0] = 0;
            return row;
        }
    }

    private static class FlatRows extends PairRows {
        @Override int[] second() {
            return first();
        }
    }

    /** The document, in the plainest words that Java's library has. */
    private static final class Model {
        static final long NONE = -1, BAD = -2, STATE = -3, FULL = -4, MUCH = -5, NOTHING = -11, PLACE = -12, KIND = -13, SIZE = -14;
        static final Class<?>[] KINDS = {PairRows.class, SumRows.class, TurnRows.class, TwiceRows.class, LowRows.class, FlatRows.class};

        int q = 7, wide = 4;
        List<One> pairs = new ArrayList<>();
        boolean[][] net = new boolean[8][8];
        Object[] hands = new Object[4];
        Object[] sheets = new Object[4];
        Model image;

        // ---- terms

        static boolean within(int v, int low, int high) {
            return low <= v && v <= high;
        }

        boolean isPair(int p) {
            return within(p, 0, pairs.size() - 1);
        }

        int[] rests(int[] numbers) {
            int[] row = new int[wide];
            for (int i = 0; i < wide; i++) {
                row[i] = Math.floorMod(numbers[i], q);
            }
            return row;
        }

        int[] added(int[] a, int[] b) {
            int[] row = new int[wide];
            for (int i = 0; i < wide; i++) {
                row[i] = (a[i] + b[i]) % q;
            }
            return row;
        }

        static PairRows rowsOf(int kind) {
            switch (kind) {
                case 0: return new PairRows();
                case 1: return new SumRows();
                case 2: return new TurnRows();
                case 3: return new TwiceRows();
                case 4: return new LowRows();
                default: return new FlatRows();
            }
        }

        int[] row(int p, int which) {
            PairRows rows = rowsOf(pairs.get(p).kind);
            rows.of = pairs.get(p);
            rows.model = this;
            return which == 0 ? rows.first() : rows.second();
        }

        List<int[]> rowsOfSet(int set) {
            List<int[]> all = new ArrayList<>();
            for (int p = 0; p < pairs.size(); p++) {
                if ((set & 1 << p) != 0) {
                    all.add(row(p, 0));
                    all.add(row(p, 1));
                }
            }
            return all;
        }

        int inverse(int v) {
            return BigInteger.valueOf(v).modInverse(BigInteger.valueOf(q)).intValue();
        }

        int rankOf(List<int[]> rows) {
            int done = 0;
            for (int c = 0; c < wide; c++) {
                int at = done;
                while (at < rows.size() && rows.get(at)[c] == 0) {
                    at++;
                }
                if (at == rows.size()) {
                    continue;
                }
                Collections.swap(rows, at, done);
                int[] top = rows.get(done);
                int by = inverse(top[c]);
                for (int r = 0; r < rows.size(); r++) {
                    if (r != done && rows.get(r)[c] != 0) {
                        int times = rows.get(r)[c] * by % q;
                        for (int i = 0; i < wide; i++) {
                            rows.get(r)[i] = Math.floorMod(rows.get(r)[i] - times * top[i], q);
                        }
                    }
                }
                done++;
            }
            return done;
        }

        boolean standing(int set) {
            int many = Integer.bitCount(set);
            return 2 * many <= wide && rankOf(rowsOfSet(set)) == 2 * many;
        }

        int standingSome(Random random) {
            for (int t = 0; t < 20; t++) {
                int set = random.nextInt(1 << pairs.size()) & random.nextInt(1 << pairs.size());
                if (standing(set)) {
                    return set;
                }
            }
            return 0;
        }

        int weightOf(int set) {
            int sum = 0;
            for (int p = 0; p < pairs.size(); p++) {
                sum += (set >> p & 1) * pairs.get(p).weight;
            }
            return sum;
        }

        List<Integer> queueOfAll() {
            List<Integer> all = new ArrayList<>();
            for (int p = pairs.size() - 1; p >= 0; p--) {
                all.add(p);
            }
            all.sort(Comparator.<Integer>comparingInt(p -> -pairs.get(p).weight).thenComparingInt(p -> pairs.get(p).kind)
                .thenComparingInt(p -> p));
            return all;
        }

        static String text(long name) {
            StringBuilder letters = new StringBuilder();
            int i = 0;
            for (; i < 8 && (name >>> 56 - 8 * i & 255) != 0; i++) {
                letters.append((char) (name >>> 56 - 8 * i & 255));
            }
            for (; i < 8; i++) {
                if ((name >>> 56 - 8 * i & 255) != 0) {
                    return null;
                }
            }
            return letters.toString().matches("[a-z]{1,7}") ? letters.toString() : null;
        }

        static long number(String text) {
            long v = 0;
            for (int i = 0; i < 8; i++) {
                v = v << 8 | (i < text.length() ? text.charAt(i) : 0);
            }
            return v;
        }

        TreeSet<String> allNames() {
            TreeSet<String> all = new TreeSet<>();
            for (One p : pairs) {
                if (p.name != null) {
                    all.add(p.name);
                }
            }
            return all;
        }

        TreeSet<List<Integer>> allRays() {
            TreeSet<List<Integer>> all = new TreeSet<>(Model::order);
            for (int p = 0; p < pairs.size(); p++) {
                for (int which = 0; which < 2; which++) {
                    List<Integer> ray = rayOfRow(row(p, which));
                    if (ray != null) {
                        all.add(ray);
                    }
                }
            }
            return all;
        }

        static int order(List<Integer> one, List<Integer> two) {
            for (int i = 0; i < 6; i++) {
                int a = i < one.size() ? one.get(i) : -1;
                int b = i < two.size() ? two.get(i) : -1;
                if (a != b) {
                    return a < b ? -1 : 1;
                }
            }
            return 0;
        }

        List<Integer> rayOfRow(int[] row) {
            int i = 0;
            while (i < wide && row[i] == 0) {
                i++;
            }
            if (i == wide) {
                return null;
            }
            List<Integer> ray = new ArrayList<>();
            for (int v : row) {
                ray.add(v * inverse(row[i]) % q);
            }
            return ray;
        }

        long placeOfSheet(int s, int k) {
            if (sheets[s] instanceof int[] ints) {
                return k < ints.length ? ints[k] : 0;
            }
            long[] longs = (long[]) sheets[s];
            return k < longs.length ? longs[k] : 0;
        }

        int lengthOf(int s) {
            return sheets[s] instanceof int[] ints ? ints.length : ((long[]) sheets[s]).length;
        }

        BigInteger difference(int p, int i, int j) {
            int[] one = row(p, 0);
            int[] two = row(p, 1);
            return BigInteger.valueOf((long) one[i] * two[j] - (long) two[i] * one[j]);
        }

        int[][] tableBy(long[] x) {
            BigInteger[][] sums = new BigInteger[wide][wide];
            int[][] all = new int[wide][wide];
            for (int i = 0; i < wide; i++) {
                for (int j = 0; j < wide; j++) {
                    sums[i][j] = BigInteger.ZERO;
                    for (int p = 0; p < pairs.size(); p++) {
                        sums[i][j] = sums[i][j].add(BigInteger.valueOf(x[p]).multiply(difference(p, i, j)));
                    }
                    all[i][j] = sums[i][j].mod(BigInteger.valueOf(q)).intValue();
                }
            }
            return all;
        }

        long[] timesOf(int s) {
            long[] x = new long[pairs.size()];
            for (int p = 0; p < x.length; p++) {
                x[p] = placeOfSheet(s, p);
            }
            return x;
        }

        int halfOf(long[] x) {
            return rankOf(new ArrayList<>(Arrays.asList(tableBy(x)))) / 2;
        }

        static final class TooGreat extends RuntimeException {
            private static final long serialVersionUID = 1L;
        }

        static BigInteger within64(BigInteger v) {
            if (v.bitLength() > 63) {
                throw new TooGreat();
            }
            return v;
        }

        BigInteger wholeAt(int s, int i, int j) {
            BigInteger sum = BigInteger.ZERO;
            for (int p = 0; p < pairs.size(); p++) {
                BigInteger part = within64(BigInteger.valueOf(placeOfSheet(s, p)).multiply(difference(p, i, j)));
                sum = within64(sum.add(part));
            }
            if (sum.bitLength() > 31) {
                throw new TooGreat();
            }
            return sum;
        }

        static BigInteger rootOf(BigInteger[][] whole, List<Integer> places) {
            if (places.isEmpty()) {
                return BigInteger.ONE;
            }
            BigInteger sum = BigInteger.ZERO;
            for (int k = 1; k < places.size(); k++) {
                List<Integer> left = new ArrayList<>(places);
                left.remove(k);
                left.remove(0);
                BigInteger part = within64(whole[places.get(0)][places.get(k)].multiply(rootOf(whole, left)));
                sum = within64(k % 2 == 1 ? sum.add(part) : sum.subtract(part));
            }
            return sum;
        }

        int coverOf(int axes, List<Integer> classes) {
            int many = Integer.bitCount(axes);
            int sum = many;
            for (int c : new TreeSet<>(classes)) {
                List<int[]> rows = new ArrayList<>();
                for (int p = 0; p < pairs.size(); p++) {
                    if (classes.get(p) == c) {
                        rows.add(row(p, 0));
                        rows.add(row(p, 1));
                    }
                }
                for (int i = 0; i < wide; i++) {
                    if ((axes >> i & 1) == 1) {
                        int[] axis = new int[wide];
                        axis[i] = 1;
                        rows.add(axis);
                    }
                }
                sum += (rankOf(rows) - many) / 2;
            }
            return sum;
        }

        boolean ringFrom(List<Integer> path, int without) {
            int last = path.get(path.size() - 1);
            if (path.size() >= 3 && net[last][path.get(0)]) {
                return true;
            }
            for (int p = 0; p < 8; p++) {
                if (net[last][p] && (without >> p & 1) == 0 && !path.contains(p)) {
                    List<Integer> longer = new ArrayList<>(path);
                    longer.add(p);
                    if (ringFrom(longer, without)) {
                        return true;
                    }
                }
            }
            return false;
        }

        boolean isBroken(int without) {
            for (int p = 0; p < 8; p++) {
                if ((without >> p & 1) == 0 && ringFrom(List.of(p), without)) {
                    return false;
                }
            }
            return true;
        }

        int linesAt(int p) {
            int many = 0;
            for (boolean line : net[p]) {
                many += line ? 1 : 0;
            }
            return many;
        }

        // ---- the face

        public long field(int prime, int w) {
            if (!within(prime, 2, 97) || !BigInteger.valueOf(prime).isProbablePrime(30) || !within(w, 1, 6)) {
                return BAD;
            }
            int was = q;
            q = prime;
            wide = w;
            return was;
        }

        public long divided(int a, int b) {
            int by = Math.floorMod(b, q);
            return by == 0 ? BAD : (long) Math.floorMod(a, q) * inverse(by) % q;
        }

        public long pair(int kind, int weight) {
            if (!within(kind, 0, 5) || !within(weight, 0, 999)) {
                return BAD;
            }
            if (pairs.size() == 10) {
                return FULL;
            }
            One p = new One();
            p.kind = kind;
            p.weight = weight;
            pairs.add(p);
            return pairs.size() - 1;
        }

        public long entry(int pair, int which, int i, int v) {
            if (!isPair(pair) || !within(which, 0, 1) || !within(i, 0, 5) || !within(v, -99, 99)) {
                return BAD;
            }
            int[] row = which == 0 ? pairs.get(pair).a : pairs.get(pair).b;
            int was = row[i];
            row[i] = v;
            return was;
        }

        public long set(int pair, int what, int v) {
            if (!isPair(pair) || !within(what, 0, 1) || !within(v, 0, what == 0 ? 5 : 999)) {
                return BAD;
            }
            One p = pairs.get(pair);
            int was = what == 0 ? p.kind : p.weight;
            if (what == 0) {
                p.kind = v;
            } else {
                p.weight = v;
            }
            return was;
        }

        public long told(int pair, int what) {
            if (!isPair(pair) || !within(what, 0, 4)) {
                return BAD;
            }
            One p = pairs.get(pair);
            switch (what) {
                case 0: return p.kind;
                case 1: return p.weight;
                case 2: return queueOfAll().indexOf(pair);
                case 3: return p.name == null ? NONE : allNames().headSet(p.name).size();
                default: return rankOf(rowsOfSet(1 << pair));
            }
        }

        public long number(int pair, int row, int i) {
            return !isPair(pair) || !within(row, 0, 1) || !within(i, 0, wide - 1) ? BAD : row(pair, row)[i];
        }

        public long drop() {
            if (pairs.isEmpty()) {
                return STATE;
            }
            pairs.remove(pairs.size() - 1);
            return pairs.size();
        }

        public long name(int pair, long name) {
            if (!isPair(pair) || text(name) == null) {
                return BAD;
            }
            for (int p = 0; p < pairs.size(); p++) {
                if (p != pair && text(name).equals(pairs.get(p).name)) {
                    return STATE;
                }
            }
            pairs.get(pair).name = text(name);
            return 1;
        }

        public long named(long name) {
            if (text(name) == null) {
                return BAD;
            }
            for (int p = 0; p < pairs.size(); p++) {
                if (text(name).equals(pairs.get(p).name)) {
                    return p;
                }
            }
            return NONE;
        }

        public long unname(int pair) {
            if (!isPair(pair)) {
                return BAD;
            }
            boolean had = pairs.get(pair).name != null;
            pairs.get(pair).name = null;
            return had ? 1 : 0;
        }

        public long nameAt(int k) {
            List<String> all = new ArrayList<>(allNames());
            return within(k, 0, all.size() - 1) ? number(all.get(k)) : PLACE;
        }

        public long rank(int set) {
            return within(set, 0, (1 << pairs.size()) - 1) ? rankOf(rowsOfSet(set)) : BAD;
        }

        public long stands(int set) {
            return !within(set, 0, (1 << pairs.size()) - 1) ? BAD : rankOf(rowsOfSet(set)) == 2 * Integer.bitCount(set) ? 1 : 0;
        }

        List<Integer> greatestSets() {
            List<Integer> all = new ArrayList<>();
            for (int set = 0; set < 1 << pairs.size(); set++) {
                if (standing(set)) {
                    if (!all.isEmpty() && Integer.bitCount(all.get(0)) < Integer.bitCount(set)) {
                        all.clear();
                    }
                    if (all.isEmpty() || Integer.bitCount(all.get(0)) == Integer.bitCount(set)) {
                        all.add(set);
                    }
                }
            }
            return all;
        }

        public long most() {
            return Integer.bitCount(greatestSets().get(0));
        }

        public long best(int what) {
            List<Integer> all = greatestSets();
            switch (what) {
                case 0: return all.get(0);
                case 1: return all.size();
                case 2: return all.stream().reduce(all.get(0), (a, b) -> a & b);
                case 3: return all.stream().reduce(0, (a, b) -> a | b);
                default: return BAD;
            }
        }

        public long heavy(int what) {
            if (!within(what, 0, 1)) {
                return BAD;
            }
            int found = -1;
            for (int set = (1 << pairs.size()) - 1; set >= 0; set--) {
                if (standing(set) && (found < 0 || weightOf(set) >= weightOf(found))) {
                    found = set;
                }
            }
            return what == 0 ? found : weightOf(found);
        }

        public long queue(int k) {
            return isPair(k) ? queueOfAll().get(k) : PLACE;
        }

        public long greedy(int what) {
            int taken = 0;
            for (int p : queueOfAll()) {
                if (standing(taken | 1 << p)) {
                    taken |= 1 << p;
                }
            }
            return what == 0 ? taken : what == 1 ? weightOf(taken) : BAD;
        }

        public long better(int set) {
            if (!within(set, 0, (1 << pairs.size()) - 1)) {
                return BAD;
            }
            if (!standing(set)) {
                return STATE;
            }
            int next = bettered(set);
            while (next != set) {
                set = next;
                next = bettered(set);
            }
            return set;
        }

        int bettered(int set) {
            for (int p = 0; p < pairs.size(); p++) {
                if ((set & 1 << p) == 0 && standing(set | 1 << p)) {
                    return set | 1 << p;
                }
            }
            for (int x = 0; x < pairs.size(); x++) {
                for (int a = 0; a < pairs.size(); a++) {
                    for (int b = a + 1; b < pairs.size(); b++) {
                        boolean fits = (set & 1 << x) != 0 && (set & 1 << a) == 0 && (set & 1 << b) == 0;
                        if (fits && standing(set - (1 << x) + (1 << a) + (1 << b))) {
                            return set - (1 << x) + (1 << a) + (1 << b);
                        }
                    }
                }
            }
            return set;
        }

        public long table(int sheet, int i, int j) {
            if (!within(sheet, 0, 3) || !within(i, 0, wide - 1) || !within(j, 0, wide - 1)) {
                return BAD;
            }
            return sheets[sheet] == null ? NOTHING : tableBy(timesOf(sheet))[i][j];
        }

        public long half(int sheet) {
            return !within(sheet, 0, 3) ? BAD : sheets[sheet] == null ? NOTHING : halfOf(timesOf(sheet));
        }

        public long root(int sheet) {
            if (!within(sheet, 0, 3)) {
                return BAD;
            }
            if (sheets[sheet] == null) {
                return NOTHING;
            }
            if (wide % 2 == 1) {
                return STATE;
            }
            try {
                BigInteger[][] whole = new BigInteger[wide][wide];
                List<Integer> places = new ArrayList<>();
                for (int i = 0; i < wide; i++) {
                    places.add(i);
                    for (int j = i + 1; j < wide; j++) {
                        whole[i][j] = wholeAt(sheet, i, j);
                    }
                }
                return rootOf(whole, places).longValueExact();
            } catch (TooGreat e) {
                return MUCH;
            }
        }

        List<Integer> drawnHalves(int seed, int n) {
            List<Integer> all = new ArrayList<>();
            int z = seed;
            for (int t = 0; t < n; t++) {
                long[] x = new long[pairs.size()];
                for (int p = 0; p < x.length; p++) {
                    z = (int) (z * 1103515245L + 12345L);
                    x[p] = (z & 0xffffffffL) / 256 % q;
                }
                all.add(halfOf(x));
            }
            return all;
        }

        public long claim(int seed, int n) {
            return within(n, 1, 20) ? Collections.max(drawnHalves(seed, n)) : BAD;
        }

        public long sure(int seed, int n) {
            return within(n, 1, 20) ? Collections.frequency(drawnHalves(seed, n), (int) most()) : BAD;
        }

        public long cover(int sheet, int axes) {
            if (!within(sheet, 0, 3) || !within(axes, 0, (1 << wide) - 1)) {
                return BAD;
            }
            if (sheets[sheet] == null) {
                return NOTHING;
            }
            List<Integer> classes = new ArrayList<>();
            Map<Long, Integer> seen = new HashMap<>();
            for (int p = 0; p < pairs.size(); p++) {
                if (p < lengthOf(sheet)) {
                    seen.putIfAbsent(placeOfSheet(sheet, p), p);
                    classes.add(seen.get(placeOfSheet(sheet, p)));
                } else {
                    classes.add(100 + p);
                }
            }
            return coverOf(axes, classes);
        }

        public long cheap(int how, int what) {
            if (!within(how, 0, 1) || !within(what, 0, 1)) {
                return BAD;
            }
            List<Integer> classes = new ArrayList<>();
            for (int p = 0; p < pairs.size(); p++) {
                classes.add(p * how);
            }
            int least = 0;
            for (int axes = 0; axes < 1 << wide; axes++) {
                if (coverOf(axes, classes) < coverOf(least, classes)) {
                    least = axes;
                }
            }
            return what == 1 ? least : coverOf(least, classes);
        }

        public int rays() {
            return allRays().size();
        }

        public long ray(int k) {
            List<List<Integer>> all = new ArrayList<>(allRays());
            if (!within(k, 0, all.size() - 1)) {
                return PLACE;
            }
            long v = 0;
            for (int i = 0; i < wide; i++) {
                v = v * q + all.get(k).get(i);
            }
            return v;
        }

        public long rayOf(int pair, int row) {
            if (!isPair(pair) || !within(row, 0, 1)) {
                return BAD;
            }
            List<Integer> ray = rayOfRow(row(pair, row));
            return ray == null ? NONE : new ArrayList<>(allRays()).indexOf(ray);
        }

        public long link(int a, int b, int on) {
            if (!within(a, 0, 7) || !within(b, 0, 7) || a == b || !within(on, 0, 1)) {
                return BAD;
            }
            boolean was = net[a][b];
            if (on == 1 && !was && (linesAt(a) == 3 || linesAt(b) == 3)) {
                return STATE;
            }
            net[a][b] = on == 1;
            net[b][a] = on == 1;
            return was ? 1 : 0;
        }

        public long breaks(int set) {
            return !within(set, 0, 255) ? BAD : isBroken(set) ? 1 : 0;
        }

        public long feedback(int what) {
            List<Integer> all = new ArrayList<>();
            for (int many = 0; all.isEmpty(); many++) {
                for (int set = 0; set < 256; set++) {
                    if (Integer.bitCount(set) == many && isBroken(set)) {
                        all.add(set);
                    }
                }
            }
            return what == 0 ? Integer.bitCount(all.get(0)) : what == 1 ? all.get(0) : what == 2 ? all.size() : BAD;
        }

        static long sortOf(Object held) {
            return held == null ? 0 : held instanceof One ? 1 : 2;
        }

        public long hold(int hand, int sort, int k) {
            if (!within(hand, 0, 3) || !within(sort, 0, 2) || sort == 1 && !isPair(k) || sort == 2 && !within(k, 0, rays() - 1)) {
                return BAD;
            }
            long was = sortOf(hands[hand]);
            hands[hand] = sort == 0 ? null : sort == 1 ? pairs.get(k).copy() : new ArrayList<>(allRays()).get(k);
            return was;
        }

        public long asPair(int hand, int kind) {
            if (!within(hand, 0, 3) || !within(kind, 0, 5)) {
                return BAD;
            }
            if (hands[hand] == null) {
                return NOTHING;
            }
            return hands[hand] instanceof One p && KINDS[kind].isInstance(rowsOf(p.kind)) ? p.weight : KIND;
        }

        public long asRay(int hand, int i) {
            if (!within(hand, 0, 3)) {
                return BAD;
            }
            if (hands[hand] == null) {
                return NOTHING;
            }
            if (!(hands[hand] instanceof List<?> ray)) {
                return KIND;
            }
            return within(i, 0, ray.size() - 1) ? (Integer) ray.get(i) : PLACE;
        }

        @SuppressWarnings("unchecked")
        public long compare(int hand, int other) {
            if (!within(hand, 0, 3) || !within(other, 0, 3)) {
                return BAD;
            }
            if (hands[hand] == null || hands[other] == null) {
                return NOTHING;
            }
            if (hands[hand] instanceof One || hands[other] instanceof One) {
                return KIND;
            }
            return order((List<Integer>) hands[hand], (List<Integer>) hands[other]);
        }

        public long sheet(int s, int sort, int n) {
            if (!within(s, 0, 3) || !within(sort, -1, 1) || sort >= 0 && n > 30) {
                return BAD;
            }
            if (sort >= 0 && n < 0) {
                return SIZE;
            }
            sheets[s] = sort < 0 ? null : sort == 0 ? new int[n] : new long[n];
            return 1;
        }

        public long cell(int s, int i, long v) {
            if (!within(s, 0, 3)) {
                return BAD;
            }
            if (sheets[s] == null) {
                return NOTHING;
            }
            if (!within(i, 0, lengthOf(s) - 1)) {
                return PLACE;
            }
            if (sheets[s] instanceof long[] longs) {
                longs[i] = v;
                return 1;
            }
            if (v < Integer.MIN_VALUE || v > Integer.MAX_VALUE) {
                return MUCH;
            }
            ((int[]) sheets[s])[i] = (int) v;
            return 1;
        }

        public long read(int s, int i) {
            if (!within(s, 0, 3)) {
                return BAD;
            }
            return sheets[s] == null ? NOTHING : within(i, 0, lengthOf(s) - 1) ? placeOfSheet(s, i) : PLACE;
        }

        public long load(int s, int pair, int from) {
            if (!within(s, 0, 3) || !isPair(pair)) {
                return BAD;
            }
            if (sheets[s] == null) {
                return NOTHING;
            }
            if (from < 0 || from + 12L > lengthOf(s)) {
                return PLACE;
            }
            for (int i = 0; i < 6; i++) {
                pairs.get(pair).a[i] = (int) (placeOfSheet(s, from + i) % 100);
                pairs.get(pair).b[i] = (int) (placeOfSheet(s, from + 6 + i) % 100);
            }
            return 12;
        }

        void take(Model other) {
            q = other.q;
            wide = other.wide;
            pairs = new ArrayList<>();
            for (One p : other.pairs) {
                pairs.add(p.copy());
            }
            for (int i = 0; i < 8; i++) {
                net[i] = other.net[i].clone();
            }
        }

        public long image() {
            image = new Model();
            image.take(this);
            return pairs.size();
        }

        public long back() {
            if (image == null) {
                return STATE;
            }
            take(image);
            return pairs.size();
        }

        public long count(int what) {
            int ends = 0;
            for (int p = 0; p < 8; p++) {
                ends += linesAt(p);
            }
            long[] all = {pairs.size(), q, wide, allNames().size(), ends / 2};
            return within(what, 0, 4) ? all[what] : BAD;
        }
    }
}
