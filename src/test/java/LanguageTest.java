import java.io.IOException;
import java.lang.management.ManagementFactory;
import java.lang.reflect.Array;
import java.lang.reflect.Constructor;
import java.lang.reflect.Field;
import java.lang.reflect.Method;
import java.lang.reflect.Modifier;
import java.nio.file.Files;
import java.nio.file.Path;
import java.util.Arrays;
import java.util.Collections;
import java.util.IdentityHashMap;
import java.util.List;
import java.util.Set;
import java.util.TreeSet;
import java.util.regex.Matcher;
import java.util.regex.Pattern;

/** What LANGUAGE.md asks for, as far as it can be seen from outside. */
public final class LanguageTest {
    private static final List<String> FACE = List.of("feed", "school", "fault", "count", "pupil", "leans", "level", "rises",
        "guest", "lesson", "exact", "behind", "up", "run", "master", "summer", "hours", "fewest", "row", "stuck", "worth",
        "mastered", "pays", "order", "classes", "log", "clear", "judge", "seed", "keep", "goBack");
    private static final List<String> CONSTANTS = List.of("NONE", "UNKNOWN", "OUTSIDE", "NOT", "FULL");
    private static int checks = 0;
    private static int wrong = 0;

    private static void check(String what, boolean holds) {
        checks++;
        if (!holds) {
            wrong++;
            System.out.println("does not hold: " + what);
        }
    }

    private static void face() {
        Class<?> c = LeastTeaches.class;
        check("public and final", Modifier.isPublic(c.getModifiers()) && Modifier.isFinal(c.getModifiers()));
        Set<String> open = new TreeSet<>();
        for (Method m : c.getDeclaredMethods()) {
            if (Modifier.isPublic(m.getModifiers())) {
                open.add(m.getName());
                check(m.getName() + " answers an int", m.getReturnType() == int.class);
            } else {
                check(m + " is private", Modifier.isPrivate(m.getModifiers()));
                check(m + " bears the name of a public method", !FACE.contains(m.getName()));
            }
        }
        check("methods of the face: " + open, open.equals(new TreeSet<>(FACE)));
        Constructor<?>[] made = c.getDeclaredConstructors();
        check("one public constructor", made.length == 1 && Modifier.isPublic(made[0].getModifiers()) && made[0].getParameterCount() == 0);
        for (Field f : c.getDeclaredFields()) {
            check(f + " is private, or a constant of the face", Modifier.isPrivate(f.getModifiers()) || CONSTANTS.contains(f.getName()));
        }
        check("classes", c.getDeclaredClasses().length <= 12);
        for (Class<?> inner : c.getDeclaredClasses()) {
            check(inner + " is static", Modifier.isStatic(inner.getModifiers()));
            for (Method m : inner.getDeclaredMethods()) {
                check(m + " bears the name of a public method", !FACE.contains(m.getName()));
                check(m + " has seven parameters at most", m.getParameterCount() <= 7);
            }
        }
    }

    private static void statics() {
        Class<?>[] all = Arrays.copyOf(LeastTeaches.class.getDeclaredClasses(), LeastTeaches.class.getDeclaredClasses().length + 1);
        all[all.length - 1] = LeastTeaches.class;
        for (Class<?> c : all) {
            int fields = 0;
            for (Field f : c.getDeclaredFields()) {
                boolean isStatic = Modifier.isStatic(f.getModifiers());
                check(f + " is final", !isStatic || Modifier.isFinal(f.getModifiers()));
                fields += isStatic ? 0 : 1;
            }
            check(c + " has some twenty fields", fields <= 20);
        }
    }

    private static void words() throws IOException {
        String source = Files.readString(Path.of("src/main/java/LeastTeaches.java"));
        check("signs 1 to 127 alone", source.chars().allMatch(ch -> ch == '\n' || ch >= 32 && ch < 127));
        String code = source.replaceAll("(?s)/\\*.*?\\*/", " ").replaceAll("//[^\n]*", " ");
        for (String word : new String[] {"throw", "throws", "try", "catch", "synchronized", "assert", "package", "native",
            "volatile", "transient", "protected", "System.out", "System.nanoTime", "Random", "Thread", "->", "::", "Exact",
            "hashCode", "double", "float", "instanceof", "@", "var", "goto"}) {
            boolean letters = Character.isLetter(word.charAt(0));
            Pattern p = Pattern.compile(letters ? "\\b" + Pattern.quote(word) + "\\b" : Pattern.quote(word));
            check("no " + word, !p.matcher(code).find());
        }
        Matcher imports = Pattern.compile("import ([\\w.*]+);").matcher(code);
        while (imports.find()) check(imports.group(), imports.group(1).equals("java.util.Arrays"));
        lengths(code);
    }

    private static void lengths(String code) {
        int start = -1;
        String[] lines = code.split("\n");
        for (int i = 0; i < lines.length; i++) {
            check("line " + (i + 1) + " is no longer than 120", lines[i].length() <= 120);
            if (lines[i].matches("( {4}| {8})[\\w\\[\\] ]+\\([^;=]*\\) \\{")) start = i;
            if (lines[i].matches(" {4}}| {8}}") && start >= 0) {
                check("the method at line " + (start + 1) + " is short", i - start <= 60);
                start = -1;
            }
        }
    }

    /** All calls of a run live in one room: they use what the constructor made. */
    private static void room() {
        com.sun.management.ThreadMXBean bean = (com.sun.management.ThreadMXBean) ManagementFactory.getThreadMXBean();
        LeastTeaches x = new LeastTeaches();
        everyCall(x);
        long id = Thread.currentThread().getId();
        long before = bean.getThreadAllocatedBytes(id);
        for (int k = 0; k < 20; k++) everyCall(x);
        long made = bean.getThreadAllocatedBytes(id) - before;
        check("no objects are made by calls: " + made + " bytes", made < 4000);
    }

    /** Fields and elements of an object and of all that it holds. */
    private static long held(Object o, Set<Object> seen) throws IllegalAccessException {
        if (o == null || !seen.add(o)) return 0;
        if (o.getClass().isArray()) {
            check("arrays hold numbers alone: " + o.getClass(), o.getClass().getComponentType().isPrimitive());
            return Array.getLength(o);
        }
        long sum = 0;
        for (Field f : o.getClass().getDeclaredFields()) {
            if (Modifier.isStatic(f.getModifiers())) continue;
            f.setAccessible(true);
            sum += 1 + (f.getType().isPrimitive() ? 0 : held(f.get(o), seen));
        }
        return sum;
    }

    /** A room of 7.3 million: a few hundred objects must find place in it. */
    private static void share() throws IllegalAccessException {
        LeastTeaches x = new LeastTeaches();
        everyCall(x);
        Set<Object> seen = Collections.newSetFromMap(new IdentityHashMap<>());
        long held = held(x, seen);
        check("an object holds little: " + held + " fields and elements", held > 1000 && held < 24000);
        check("an object is few objects: " + seen.size(), seen.size() < 60);
    }

    private static void everyCall(LeastTeaches x) {
        long[] text = {0x7468696e673b7075L, 0x70696c2033203430L, 0x203520323b707570L, 0x696c203120302030L, 0x20363b2020202020L};
        for (int i = 0; i < text.length; i++) x.feed(8, text[i]);
        x.school(); x.fault(); x.count(0); x.pupil(0, 4); x.leans(0); x.level(0, 0); x.rises(0, 0); x.guest(true);
        x.lesson(0, 0, true); x.exact(0, 0, 3); x.behind(1, 0, 20, 2); x.up(2, 0); x.run(1, 0, 5, true); x.summer(2);
        x.master(0); x.hours(1, 0); x.fewest(0); x.row(0, 1); x.stuck(0); x.worth(0); x.mastered(0); x.pays(0, 0, 3, 9);
        x.order(-1); x.classes(0, 0); x.log(1, 0); x.judge(); x.clear(); x.seed(5); x.keep(1); x.goBack(1);
    }

    public static void main(String[] args) throws IOException, IllegalAccessException {
        face();
        statics();
        words();
        room();
        share();
        System.out.println("LanguageTest: " + checks + " checks, " + wrong + " wrong");
        if (wrong != 0) System.exit(1);
    }
}
