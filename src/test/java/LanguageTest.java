import com.sun.management.ThreadMXBean;
import java.lang.management.ManagementFactory;
import java.lang.reflect.Constructor;
import java.lang.reflect.Field;
import java.lang.reflect.Method;
import java.lang.reflect.Modifier;
import java.nio.file.Files;
import java.nio.file.Path;
import java.util.ArrayList;
import java.util.Arrays;
import java.util.List;
import java.util.Set;
import java.util.TreeSet;
import java.util.regex.Matcher;
import java.util.regex.Pattern;

/** The face, and what of LANGUAGE.md can be read off the class and its file. */
public final class LanguageTest {
    private static final Path SOURCE = Path.of("src/main/java/TenseLines.java");
    private static final String[] FACE = {
        "type(int)", "clear()", "reads()", "clause(int,int)", "statement(int,int)", "says(int,int,int)", "takes(int)",
        "tenses(int,int)", "links(int,int)", "undo()", "sound()", "clash(int)", "known(int,int)", "line(int)",
        "would(int,int,int)", "orders()", "left(int,int,int)", "best(int)", "sees(int,int,int)", "forget()", "unseen()",
        "keep(int)", "back(int)", "count(int)"};
    private static final String[] CONSTANTS = {"BAD", "FULL", "NONE", "STATE"};
    private static int wrong = 0;

    private static void check(boolean good, String what) {
        if (!good) {
            wrong++;
            System.out.println(what);
        }
    }

    private static void face() {
        Class<?> c = TenseLines.class;
        check(c.getModifiers() == (Modifier.PUBLIC | Modifier.FINAL), "rule 1: not public and final");
        Set<String> methods = new TreeSet<>();
        for (Method m : c.getDeclaredMethods()) {
            if (Modifier.isPrivate(m.getModifiers())) {
                continue;
            }
            check(m.getModifiers() == Modifier.PUBLIC && m.getReturnType() == int.class, "rule 1: " + m);
            String types = Arrays.toString(m.getParameterTypes()).replaceAll("[\\[\\] ]", "");
            methods.add(m.getName() + "(" + types + ")");
        }
        check(methods.equals(new TreeSet<>(Arrays.asList(FACE))), "rule 1: the methods are " + methods);
        Constructor<?>[] constructors = c.getDeclaredConstructors();
        check(constructors.length == 1 && constructors[0].getModifiers() == Modifier.PUBLIC
            && constructors[0].getParameterCount() == 0, "rule 1: the constructor");
        Set<String> constants = new TreeSet<>();
        for (Field f : c.getDeclaredFields()) {
            if (!Modifier.isPrivate(f.getModifiers())) {
                constants.add(f.getName());
            }
        }
        check(constants.equals(new TreeSet<>(Arrays.asList(CONSTANTS))), "rule 1: the constants are " + constants);
    }

    private static void classes() {
        List<Class<?>> all = new ArrayList<>(Arrays.asList(TenseLines.class.getDeclaredClasses()));
        check(all.size() <= 12, "rule 11: too many classes");
        all.add(TenseLines.class);
        Set<String> open = new TreeSet<>();
        for (String m : FACE) {
            open.add(m.substring(0, m.indexOf('(')));
        }
        for (Class<?> c : all) {
            check(c == TenseLines.class || Modifier.isStatic(c.getModifiers()), "rule 2: not static: " + c);
            int fields = 0;
            for (Field f : c.getDeclaredFields()) {
                fields += Modifier.isStatic(f.getModifiers()) ? 0 : 1;
                check(!Modifier.isStatic(f.getModifiers()) || Modifier.isFinal(f.getModifiers()), "rule 5: " + f);
            }
            check(fields <= 20, "rule 11: fields of " + c);
            for (Method m : c.getDeclaredMethods()) {
                check(m.getParameterCount() <= 7, "rule 11: parameters of " + m);
                check(!Modifier.isPrivate(m.getModifiers()) || !open.contains(m.getName()), "rule 1: the name of " + m);
            }
        }
    }

    private static void words(String code) {
        for (String word : new String[] {"throw", "throws", "try", "catch", "finally", "synchronized", "assert", "package",
            "hashCode", "protected", "Thread", "Object"}) {
            check(!Pattern.compile("\\b" + word + "\\b").matcher(code).find(), "rules 3 to 6: the word " + word);
        }
        for (String line : code.split("\n")) {
            boolean arm = line.matches("\\s*(case\\b.*|default\\s*)->.*");
            check(arm || !line.contains("->") && !line.contains("::"), "rule 2: a lambda or a method reference: " + line);
        }
        check(!Pattern.compile("static\\s*\\{").matcher(code).find(), "rule 5: a static block");
        only(code, "\\bimport\\s+([\\w.*]+)", Set.of("java.util.ArrayList", "java.util.List", "java.util.Arrays",
            "java.util.Iterator"));
        only(code, "\\bSystem\\.(\\w+)", Set.of("arraycopy"));
        only(code, "\\bArrays\\.(\\w+)", Set.of("copyOf", "copyOfRange", "fill"));
        only(code, "\\b(?:Math|Integer|Long)\\.(\\w*Exact)\\b", Set.of());
    }

    private static void only(String code, String use, Set<String> listed) {
        Matcher library = Pattern.compile(use).matcher(code);
        while (library.find()) {
            check(listed.contains(library.group(1)), "rule 4: " + library.group());
        }
    }

    private static void lengths(String code) {
        String[] lines = code.split("\n");
        String method = "";
        int began = 0;
        for (int i = 0; i < lines.length; i++) {
            if (lines[i].matches("( {4}| {8})[A-Za-z].*\\) \\{")) {
                method = lines[i].trim();
                began = i;
            }
            check(i - began <= 60 || !lines[i].matches(" {8,}.*;") || method.isEmpty(), "rule 11: too long: " + method);
        }
    }

    /** What 512 calls make must stay far below the room of a run: 600,000 objects, 7.3 million elements. */
    private static void room() {
        ThreadMXBean thread = (ThreadMXBean) ManagementFactory.getThreadMXBean();
        long before = thread.getCurrentThreadAllocatedBytes();
        TenseLines x = new TenseLines();
        int made = 0;
        for (char letter : "d;/d;/d;/d;/d;/d;/d;/d;A<B;B<A;C<D;D<E;".toCharArray()) {
            x.type(letter);
            made++;
        }
        x.reads();
        for (made++; made + 11 <= 512; made += 11) {
            x.unseen();
            x.clash(0);
            x.takes(8);
            x.left(0, 7, 1);
            x.best(2);
            x.orders();
            x.says(4, 0, 2);
            x.keep(0);
            x.back(0);
            x.known(2, 16);
            x.line(16);
        }
        long bytes = thread.getCurrentThreadAllocatedBytes() - before;
        check(bytes < 8_000_000, "room: 512 calls make " + bytes + " bytes");
    }

    public static void main(String[] args) throws Exception {
        String source = Files.readString(SOURCE);
        String code = source.replaceAll("(?s)/\\*.*?\\*/", "").replaceAll("//[^\n]*", "");
        check(code.chars().allMatch(letter -> letter > 0 && letter < 128), "rule 4: a sign");
        face();
        classes();
        words(code);
        lengths(code);
        room();
        System.out.println(wrong == 0 ? "the language is kept" : wrong + " faults of language");
        if (wrong != 0) {
            System.exit(1);
        }
    }
}
