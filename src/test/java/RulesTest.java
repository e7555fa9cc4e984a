import java.lang.management.ManagementFactory;
import java.lang.reflect.Array;
import java.lang.reflect.Constructor;
import java.lang.reflect.Field;
import java.lang.reflect.Method;
import java.lang.reflect.Modifier;
import java.nio.file.Files;
import java.nio.file.Path;
import java.util.ArrayList;
import java.util.Arrays;
import java.util.HashMap;
import java.util.HashSet;
import java.util.IdentityHashMap;
import java.util.List;
import java.util.Map;
import java.util.Set;
import java.util.TreeSet;
import java.util.regex.Matcher;
import java.util.regex.Pattern;

/** The face of the document, the rules of LANGUAGE.md that can be read off the class and its text, and the room that calls take. */
public final class RulesTest {
    private static final Path SOURCE = Path.of("src/main/java/PairsStand.java");
    private static final String FACE = "int field(int,int);int divided(int,int);int pair(int,int);int entry(int,int,int,int);"
        + "int set(int,int,int);int told(int,int);int number(int,int,int);int drop();int name(int,long);int named(long);"
        + "int unname(int);long nameAt(int);int rank(int);int stands(int);int most();int best(int);int heavy(int);int queue(int);"
        + "int greedy(int);int better(int);int table(int,int,int);int half(int);long root(int);int claim(int,int);"
        + "int sure(int,int);int cover(int,int);int cheap(int,int);int rays();long ray(int);int rayOf(int,int);"
        + "int link(int,int,int);int breaks(int);int feedback(int);int hold(int,int,int);int asPair(int,int);int asRay(int,int);"
        + "int compare(int,int);int sheet(int,int,int);int cell(int,int,long);long read(int,int);int load(int,int,int);"
        + "int image();int back();int count(int)";
    private static final String CONSTANTS = "NONE -1;BAD -2;STATE -3;FULL -4;MUCH -5;NOTHING -11;PLACE -12;KIND -13;SIZE -14";
    private static final Set<Class<?>> STATIC = Set.of(int.class, long.class, boolean.class, char.class, String.class,
        int[].class, long[].class, char[].class, byte[].class);
    private static final Pattern HEAD = Pattern.compile("(?m)^(    |        )(?:(?:public|private|static) )*[a-z]+(?:\\[\\])? ([A-Za-z]+)\\([^)]*\\) \\{$");
    private static int wrong = 0;

    private static void must(boolean holds, String what) {
        if (!holds) {
            wrong++;
            System.out.println("not kept: " + what);
        }
    }

    public static void main(String[] args) throws Exception {
        face();
        classesInside();
        String text = withoutComments(Files.readString(SOURCE));
        words(text);
        lengths(text);
        depths(text);
        roomOfAnObject();
        roomOfCalls();
        System.out.println(wrong == 0 ? "rules: all are kept" : "rules: " + wrong + " are not kept");
        if (wrong != 0) {
            System.exit(1);
        }
    }

    private static void face() throws Exception {
        Class<?> c = PairsStand.class;
        must(Modifier.isPublic(c.getModifiers()) && Modifier.isFinal(c.getModifiers()), "public and final");
        must(c.getPackageName().isEmpty(), "no package");
        Constructor<?>[] made = c.getDeclaredConstructors();
        must(made.length == 1 && Modifier.isPublic(made[0].getModifiers()) && made[0].getParameterCount() == 0, "one constructor");
        Set<String> got = new TreeSet<>();
        for (Method m : c.getDeclaredMethods()) {
            if (Modifier.isPrivate(m.getModifiers())) {
                continue;
            }
            String types = Arrays.toString(m.getParameterTypes()).replace("[", "(").replace("]", ")").replace(" ", "");
            got.add(m.getReturnType() + " " + m.getName() + types);
            must(m.getModifiers() == Modifier.PUBLIC, "public alone: " + m);
        }
        must(got.equals(new TreeSet<>(List.of(FACE.split(";")))), "the face, not: " + got);
        Set<String> constants = new TreeSet<>();
        for (Field f : c.getDeclaredFields()) {
            if (!Modifier.isPrivate(f.getModifiers())) {
                must(f.getModifiers() == (Modifier.PUBLIC | Modifier.STATIC | Modifier.FINAL) && f.getType() == int.class, "constant " + f);
                constants.add(f.getName() + " " + f.getInt(null));
            }
        }
        must(constants.equals(new TreeSet<>(List.of(CONSTANTS.split(";")))), "the constants, not: " + constants);
    }

    private static List<Class<?>> allClasses() {
        List<Class<?>> all = new ArrayList<>();
        all.add(PairsStand.class);
        all.addAll(List.of(PairsStand.class.getDeclaredClasses()));
        return all;
    }

    private static void classesInside() {
        Set<String> publicNames = new HashSet<>();
        for (String one : FACE.split(";")) {
            publicNames.add(one.substring(one.indexOf(' ') + 1, one.indexOf('(')));
        }
        must(allClasses().size() <= 12, "twelve classes");
        for (Class<?> c : allClasses()) {
            int fields = 0;
            boolean inside = c != PairsStand.class;
            must(!inside || Modifier.isStatic(c.getModifiers()) && !Modifier.isPublic(c.getModifiers()), "static inside: " + c);
            must(!inside || !Modifier.isProtected(c.getModifiers()), "not protected: " + c);
            must(c.getSuperclass() == Object.class || c.getSuperclass().getNestHost() == PairsStand.class, "above it: " + c);
            for (Field f : c.getDeclaredFields()) {
                fields += Modifier.isStatic(f.getModifiers()) ? 0 : 1;
                must(!Modifier.isStatic(f.getModifiers()) || Modifier.isFinal(f.getModifiers()), "static and not final: " + f);
                must(!Modifier.isStatic(f.getModifiers()) || STATIC.contains(f.getType()), "of no static field's type: " + f);
            }
            must(fields <= 20, "twenty fields: " + c);
            for (Method m : c.getDeclaredMethods()) {
                must(m.getParameterCount() <= 7, "seven parameters: " + m);
                must(!m.isSynthetic(), "made by the compiler: " + m);
                boolean isFace = !inside && Modifier.isPublic(m.getModifiers());
                must(isFace || !publicNames.contains(m.getName()), "a name of the face: " + m);
            }
        }
    }

    private static String withoutComments(String source) {
        return source.replaceAll("(?s)/\\*.*?\\*/", "").replaceAll("//[^\n]*", "").replaceAll("'[^'\n]*'", "0");
    }

    private static void words(String text) {
        String[] never = {"throw", "throws", "try", "catch", "finally", "synchronized", "assert", "import", "package", "volatile",
            "transient", "native", "protected", "var", "Object", "Exception", "instanceof", "double", "float"};
        Set<String> inText = new HashSet<>();
        Matcher word = Pattern.compile("[A-Za-z_][A-Za-z_0-9]*").matcher(text);
        while (word.find()) {
            inText.add(word.group());
        }
        for (String one : never) {
            must(!inText.contains(one), "the word " + one);
        }
        for (String sign : new String[] {"->", "::", "\"", "@", "Exact"}) {
            must(!text.contains(sign), "the sign " + sign);
        }
        must(!Pattern.compile("static\\s*\\{").matcher(text).find(), "no static block");
        must(!text.contains("[]["), "arrays of one dimension");
        library(text);
    }

    /** Rule 4 lists functions of Integer, Long, Math and System: their constants (Long.MIN_VALUE) are not on it. */
    private static void library(String text) {
        Set<String> used = new TreeSet<>();
        Matcher call = Pattern.compile("\\b([A-Z][a-z][A-Za-z]*)\\.([A-Za-z_]+\\(?)").matcher(text);
        while (call.find()) {
            used.add(call.group(1) + "." + call.group(2));
        }
        used.removeAll(Set.of("Rays.NO_RAY"));
        Set<String> allowed = Set.of("Integer.bitCount(", "Integer.compare(", "Math.max(", "Math.min(", "System.arraycopy(");
        must(allowed.containsAll(used), "the library, not: " + used);
    }

    /** A method's head stands 4 signs in (8 in a class inside), and so does the brace that ends it. */
    private static void lengths(String text) {
        Matcher method = HEAD.matcher(text);
        int found = 0;
        while (method.find()) {
            found++;
            int end = text.indexOf("\n" + method.group(1) + "}", method.end());
            must(end > 0 && text.substring(method.start(), end).split("\n").length <= 60, "sixty lines: " + method.group());
        }
        must(found > 100, "the methods that were looked at, not: " + found);
    }

    /**
     * Rule 11: calls that are no recursion go at most eight deep; rule 8: what calls itself takes its depth along. Methods of one
     * name in several classes are taken for one, so that what is found is never too little.
     */
    private static void depths(String text) {
        Map<String, Set<String>> calls = new HashMap<>();
        Matcher head = HEAD.matcher(text);
        while (head.find()) {
            int end = text.indexOf("\n" + head.group(1) + "}", head.end());
            Set<String> called = calls.computeIfAbsent(head.group(2), name -> new TreeSet<>());
            Matcher call = Pattern.compile("(?<!Integer\\.|Math\\.|System\\.)\\b([a-z][A-Za-z]*)\\(").matcher(text.substring(head.end(), Math.max(head.end(), end)));
            while (call.find()) {
                called.add(call.group(1));
            }
        }
        Set<String> callThemselves = new TreeSet<>();
        for (String name : calls.keySet()) {
            if (calls.get(name).remove(name)) {
                callThemselves.add(name);
            }
        }
        must(callThemselves.equals(Set.of("ofPlaces")), "one that calls itself, not: " + callThemselves);
        must(text.contains("long ofPlaces(int left, int depth)") && text.contains("depth + 1)"), "the depth is carried");
        for (String name : calls.keySet()) {
            must(depthOf(name, calls, 0) <= 8, "eight deep: " + name + ", not: " + depthOf(name, calls, 0));
        }
    }

    private static int depthOf(String name, Map<String, Set<String>> calls, int open) {
        int deepest = 0;
        if (open > 30) {
            return open;
        }
        for (String called : calls.getOrDefault(name, Set.of())) {
            deepest = calls.containsKey(called) ? Math.max(deepest, depthOf(called, calls, open + 1)) : deepest;
        }
        return deepest + 1;
    }

    private static void roomOfAnObject() throws Exception {
        Map<Object, Boolean> seen = new IdentityHashMap<>();
        long places = walk(new PairsStand(), seen);
        must(seen.size() < 100 && places < 3000, "a small object, not: " + seen.size() + " objects, " + places + " places");
    }

    private static long walk(Object of, Map<Object, Boolean> seen) throws Exception {
        if (of == null || seen.put(of, true) != null) {
            return 0;
        }
        long places = 0;
        if (of.getClass().isArray()) {
            places += Array.getLength(of);
            for (int i = 0; i < Array.getLength(of) && !of.getClass().getComponentType().isPrimitive(); i++) {
                places += walk(Array.get(of, i), seen);
            }
            return places;
        }
        for (Field f : of.getClass().getDeclaredFields()) {
            if (!Modifier.isStatic(f.getModifiers())) {
                places++;
                f.setAccessible(true);
                places += f.getType().isPrimitive() ? 0 : walk(f.get(of), seen);
            }
        }
        return places;
    }

    /** Calls make nothing: so a run of any length stays in its room. */
    private static void roomOfCalls() {
        com.sun.management.ThreadMXBean threads = (com.sun.management.ThreadMXBean) ManagementFactory.getThreadMXBean();
        PairsStand x = new PairsStand();
        long sum = 0;
        for (int k = 0; k < 300; k++) {
            sum += callAll(x, k);
        }
        long id = Thread.currentThread().getId();
        long before = threads.getThreadAllocatedBytes(id);
        for (int k = 0; k < 3000; k++) {
            sum += callAll(x, k);
        }
        long bytes = threads.getThreadAllocatedBytes(id) - before;
        must(sum != 0 && bytes < 3000, "calls that make nothing, not: " + bytes + " bytes in 3000 rounds");
    }

    private static long callAll(PairsStand x, int k) {
        int p = k % 10;
        long sum = x.field(k % 3 == 0 ? 97 : 7, 1 + k % 6) + x.divided(k, 3) + x.pair(k % 6, k % 1000);
        sum += x.entry(p, k / 10 % 2, k / 20 % 6, k % 199 - 99) + x.set(p, k % 2, k % 6) + x.told(p, k % 5) + x.number(p, k % 2, k % 6);
        sum += x.name(p, (long) ('a' + k % 26) << 56) + x.named((long) ('a' + p) << 56) + x.unname((k + 3) % 10) + x.nameAt(k % 4);
        sum += x.rank(k % 1024) + x.stands(1 << p) + x.most() + x.best(k % 4) + x.heavy(k % 2) + x.queue(p) + x.greedy(k % 2);
        sum += x.better(1 << p) + x.sheet(k % 4, k % 3 - 1, k % 31) + x.cell(k % 4, k % 9, k * 77L) + x.read(k % 4, k % 9);
        sum += x.table(k % 4, k % 6, k % 5) + x.half(k % 4) + x.root(k % 4) + x.claim(k, 20) + x.sure(k, 20) + x.cover(k % 4, k % 64);
        sum += x.cheap(k % 2, k / 2 % 2) + x.rays() + x.ray(k % 20) + x.rayOf(p, k % 2) + x.link(k % 8, k / 8 % 8, k % 3 % 2);
        sum += x.breaks(k % 256) + x.feedback(k % 3) + x.hold(k % 4, k % 3, k % 9) + x.asPair(k % 4, k % 6) + x.asRay(k % 4, k % 6);
        sum += x.compare(k % 4, k / 4 % 4) + x.load(k % 4, p, k % 19) + x.image() + (k % 50 == 0 ? x.back() : 0) + x.count(k % 5);
        return sum + (k % 5 == 0 ? x.drop() : 0);
    }
}
