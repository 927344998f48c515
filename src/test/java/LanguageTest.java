import com.sun.management.ThreadMXBean;
import java.lang.management.ManagementFactory;
import java.lang.reflect.Constructor;
import java.lang.reflect.Field;
import java.lang.reflect.Method;
import java.lang.reflect.Modifier;
import java.nio.file.Files;
import java.nio.file.Path;
import java.util.ArrayList;
import java.util.Arrays;
import java.util.List;
import java.util.Set;
import java.util.TreeSet;

/** The face, the room, and what of LANGUAGE.md can be read off the class and its file (LanguageFaults). */
public final class LanguageTest {
    private static final Path SOURCE = Path.of("src/main/java/TenseLines.java");
    private static final String[] FACE = {
        "type(int)", "clear()", "reads()", "clause(int,int)", "statement(int,int)", "says(int,int,int)", "takes(int)",
        "tenses(int,int)", "links(int,int)", "undo()", "sound()", "clash(int)", "known(int,int)", "line(int)",
        "would(int,int,int)", "orders()", "left(int,int,int)", "best(int)", "sees(int,int,int)", "forget()", "unseen()",
        "keep(int)", "back(int)", "count(int)"};
    private static final String[] CONSTANTS = {"BAD", "FULL", "NONE", "STATE"};
    private static int wrong = 0;

    private static void check(boolean good, String what) {
        if (!good) {
            wrong++;
            System.out.println(what);
        }
    }

    private static void face() {
        Class<?> c = TenseLines.class;
        check(c.getModifiers() == (Modifier.PUBLIC | Modifier.FINAL), "rule 1: not public and final");
        Set<String> methods = new TreeSet<>();
        for (Method m : c.getDeclaredMethods()) {
            if (Modifier.isPrivate(m.getModifiers())) {
                continue;
            }
            check(m.getModifiers() == Modifier.PUBLIC && m.getReturnType() == int.class, "rule 1: " + m);
            String types = Arrays.toString(m.getParameterTypes()).replaceAll("[\\[\\] ]", "");
            methods.add(m.getName() + "(" + types + ")");
        }
        check(methods.equals(new TreeSet<>(Arrays.asList(FACE))), "rule 1: the methods are " + methods);
        Constructor<?>[] constructors = c.getDeclaredConstructors();
        check(constructors.length == 1 && constructors[0].getModifiers() == Modifier.PUBLIC
            && constructors[0].getParameterCount() == 0, "rule 1: the constructor");
        Set<String> constants = new TreeSet<>();
        for (Field f : c.getDeclaredFields()) {
            if (!Modifier.isPrivate(f.getModifiers())) {
                int fixed = Modifier.PUBLIC | Modifier.STATIC | Modifier.FINAL;
                check(f.getModifiers() == fixed && f.getType() == int.class, "rule 1: " + f);
                constants.add(f.getName());
            }
        }
        check(constants.equals(new TreeSet<>(Arrays.asList(CONSTANTS))), "rule 1: the constants are " + constants);
        check(TenseLines.BAD == -1 && TenseLines.STATE == -2 && TenseLines.FULL == -3 && TenseLines.NONE == -9,
            "the face: a constant's number");
    }

    /** "No private method bears the name of a public one": in no class of the file. */
    private static void names() {
        List<Class<?>> all = new ArrayList<>(Arrays.asList(TenseLines.class.getDeclaredClasses()));
        all.add(TenseLines.class);
        Set<String> open = new TreeSet<>();
        for (String m : FACE) {
            open.add(m.substring(0, m.indexOf('(')));
        }
        for (Class<?> c : all) {
            for (Method m : c.getDeclaredMethods()) {
                check(!Modifier.isPrivate(m.getModifiers()) || !open.contains(m.getName()), "rule 1: the name of " + m);
            }
        }
    }

    /** The reader must find what it is there for: each of these leaves the rule whose number it has. */
    private static final String[][] BROKEN = {
        {"1", "public static final class In { }"},
        {"1", "} final class Second {"},
        {"2", "final class In { }"},
        {"2", "void f() { class In { } }"},
        {"2", "void f() { Runnable r = () -> { }; }"},
        {"2", "void f() { Runnable r = this::f; }"},
        {"2", "abstract static class In { } In f() { return new In() { }; }"},
        {"3", "private Object x;"},
        {"3", "private String[] x;"},
        {"3", "private boolean[][] x;"},
        {"3", "private int[][][] x;"},
        {"3", "private java.util.HashMap<Integer, Integer> x;"},
        {"3", "Object f() { return null; }"},
        {"3", "int f(java.util.Random r) { return 0; }"},
        {"4", "long f() { return System.nanoTime(); }"},
        {"4", "int f(int a) { return Math.addExact(a, 1); }"},
        {"4", "int f(String s) { return s.hashCode(); }"},
        {"4", "int f(String s) { return s.indexOf(s); }"},
        {"4", "String f() { return Integer.toString(1); }"},
        {"4", "void f(StringBuilder s) { s.append(1L); }"},
        {"4", "void f() { System.out.println(); }"},
        {"4", "void f(int[] a) { java.util.Arrays.sort(a); }"},
        {"4", "int f() { return Integer.MAX_VALUE; }"},
        {"4", "private static final String A = \"\\u00e9\";"},
        {"5", "private static int x;"},
        {"5", "private static final int[] X = new int[3];"},
        {"5", "private static final double X = 1;"},
        {"5", "private static final int[] X = {1}; void f() { X[0] = 2; }"},
        {"5", "private static final int[] X = {1}; void f() { X[0]++; }"},
        {"5", "private static final int[] X = {1}; void f() { X[0] |= 2; }"},
        {"5", "static { }"},
        {"6", "void f() { throw new IllegalStateException(); }"},
        {"6", "void f() { try { f(); } finally { f(); } }"},
        {"6", "void f() { synchronized (this) { } }"},
        {"6", "void f(int a) { assert a > 0; }"},
        {"6", "boolean f(String a, String b) { return a == b; }"},
        {"6", "boolean f(Integer a, Integer b) { return a != b; }"},
        {"6", "public String toString() { return null; }"},
        {"6", "String f(Object a) { return (String) a; }"},
        {"9", "void f() { while (true) { } }"},
        {"9", "void f() { for (;;) { } }"},
        {"9", "void f() { do { } while ((true)); }"},
        {"10", "String f(String a) { return a + 1; }"},
        {"10", "void f(String a) { a += 1; }"},
        {"11", "void f(int a, int b, int c, int d, int e, int g, int h, int i) { }"},
        {"11", "void f() {" + "\n".repeat(60) + "}"},
        {"11", "int a, b, c, d, e, f, g, h, i, j, k, l, m, n, o, p, q, r, s, t, u;"},
        {"11", "void a() { b(); } void b() { c(); } void c() { d(); } void d() { e(); } void e() { f(); }"
            + " void f() { g(); } void g() { h(); } void h() { i(); } void i() { }"},
        {"11", "private static class A { static class B { static class C { static class D { } } } }"
            + " private static class E { static class F { static class G { static class H { } } } }"
            + " private static class I { static class J { static class K { static class L { static class M { } } } } }"},
        {"12", "static class In { In() { over(); } void over() { } }"},
    };

    /** None of these leaves a rule. */
    private static final String[] GOOD = {
        "private static final int[] X = {1}; private final int[] y = new int[2]; void f() { y[0] = X[0]; }",
        "private final int[][] x = new int[2][3]; private final java.util.ArrayList<Integer> y = new java.util.ArrayList<>();"
            + " int f() { return y.isEmpty() ? x[0].length : y.get(0); }",
        "static int f(int n) { return n <= 0 ? 0 : f(n - 1); } int g() { return Math.max(f(3), Integer.bitCount(9)); }",
        "void a() { b(); } void b() { c(); } void c() { d(); } void d() { e(); } void e() { f(); }"
            + " void f() { g(); } void g() { h(); } void h() { }",
        "private interface Kind { int f(); } private static final class In implements Kind { public int f() { return 1; } }"
            + " int g(Kind k) { return k instanceof In i ? i.f() : k == null ? 0 : ((In) k).f(); }",
        "String f(String s) { StringBuilder b = new StringBuilder(); b.append(s.charAt(0)).append(s).append(3);"
            + " return s.indexOf('a') < 0 ? s : b.toString(); }",
        "int[] f(int[] a) { System.arraycopy(a, 0, a, 0, 0); java.util.Arrays.fill(a, 0); return a.clone(); }",
        "private enum Way { UP, DOWN; private static final Way[] ALL = values(); } int f() { return Way.ALL.length; }",
        "void f(int a, int b, int c, int d, int e, int g, int h) {" + "\n".repeat(59) + "}",
    };

    private static void theReaderFinds() throws Exception {
        for (String[] broken : BROKEN) {
            String rule = "rule " + broken[0] + ":";
            boolean found = false;
            for (String fault : LanguageFaults.of("T", "public final class T { " + broken[1] + " }")) {
                found |= fault.startsWith(rule);
            }
            check(found, "the reader does not find, by " + rule + " " + broken[1]);
        }
        for (String good : GOOD) {
            List<String> faults = LanguageFaults.of("T", "public final class T { " + good + " }");
            check(faults.isEmpty(), "the reader finds " + faults + " in " + good);
        }
    }

    /** What 512 calls make must stay far below the room of a run: 600,000 objects, 7.3 million elements. */
    private static void room() {
        ThreadMXBean thread = (ThreadMXBean) ManagementFactory.getThreadMXBean();
        long before = thread.getCurrentThreadAllocatedBytes();
        TenseLines x = new TenseLines();
        int made = 0;
        for (char letter : "d;/d;/d;/d;/d;/d;/d;/d;A<B;B<A;C<D;D<E;".toCharArray()) {
            x.type(letter);
            made++;
        }
        x.reads();
        for (made++; made + 11 <= 512; made += 11) {
            x.unseen();
            x.clash(0);
            x.takes(8);
            x.left(0, 7, 1);
            x.best(2);
            x.orders();
            x.says(4, 0, 2);
            x.keep(0);
            x.back(0);
            x.known(2, 16);
            x.line(16);
        }
        long bytes = thread.getCurrentThreadAllocatedBytes() - before;
        check(bytes < 8_000_000, "room: 512 calls make " + bytes + " bytes");
    }

    public static void main(String[] args) throws Exception {
        face();
        names();
        theReaderFinds();
        for (String fault : LanguageFaults.of("TenseLines", Files.readString(SOURCE))) {
            check(false, fault);
        }
        room();
        System.out.println(wrong == 0 ? "the language is kept" : wrong + " faults of language");
        if (wrong != 0) {
            System.exit(1);
        }
    }
}
