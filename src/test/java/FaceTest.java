import java.lang.management.ManagementFactory;
import java.lang.reflect.Constructor;
import java.lang.reflect.Field;
import java.lang.reflect.Method;
import java.lang.reflect.Modifier;
import java.nio.charset.StandardCharsets;
import java.nio.file.Files;
import java.nio.file.Path;
import java.util.Arrays;
import java.util.Set;
import java.util.TreeSet;
import java.util.regex.Matcher;
import java.util.regex.Pattern;

/** The public face, the rules of LANGUAGE.md that can be seen, calls with any arguments, and the room that they take. */
public final class FaceTest {
    private static final Path SOURCE = Path.of("src/main/java/ColdShares.java");
    private static final String[] FACE = {
        "int row(int,int)", "int lay(int,int,int)", "int at(int,int)", "int tear(int)", "int copy(int,int,int,int,int)",
        "int mean(int)", "int text(int,int)", "int put(int,int,int)", "int fault(int)", "int street(int)",
        "int house(int,int)", "int cold(int)", "int mark(int,int)", "int wind(int,int)", "int bear(int,int)",
        "int sell(int,int,int)", "int night()", "int undo(int)", "int keep(int)", "int on(int)", "int hurt(int,int)",
        "int most(int)", "int least(int,int)", "int price(int)", "int late()", "int gain(int,int)", "int sales()",
        "int share(int)", "int saves(int)", "int part(int)", "int ice(int,int)", "int odds(int)", "int risk(int)",
        "int lots(int,int)", "int asked()", "long upper()", "long lower()", "int count(int)", "int finding()",
        "int findings(int)", "long digest()"};
    private static final String[] CONSTANTS = {"BAD", "FULL", "FINDING", "STATE", "SPENT", "NONE"};
    private static final String[] RULED_OUT = {
        "throw", "throws", "try", "catch", "synchronized", "assert", "package", "strictfp", "native", "volatile",
        "->", "::", "\"", "System\\.(?!arraycopy)", "Exact\\b", "Random", "Thread", "\\.equals", "\\.hashCode",
        "@Override", "java\\.(?!util\\.Arrays;)", "double", "float"};

    private static int wrong = 0;

    private static void hold(String what, boolean holds) {
        if (!holds) {
            wrong++;
            System.out.println(what);
        }
    }

    public static void main(String[] args) throws Exception {
        face();
        constants();
        classesInside();
        source();
        anyArguments();
        room();
        System.out.println(wrong == 0 ? "the face is as told" : wrong + " things are not as told");
        if (wrong != 0) {
            System.exit(1);
        }
    }

    private static void face() {
        Class<?> c = ColdShares.class;
        hold("the class is not public and final", Modifier.isPublic(c.getModifiers()) && Modifier.isFinal(c.getModifiers()));
        Set<String> due = new TreeSet<>(Arrays.asList(FACE));
        Set<String> there = new TreeSet<>();
        for (Method m : c.getDeclaredMethods()) {
            if (!Modifier.isPrivate(m.getModifiers())) {
                String types = Arrays.toString(m.getParameterTypes()).replaceAll("[\\[\\] ]", "");
                there.add(m.getReturnType() + " " + m.getName() + "(" + types + ")");
                hold(m + " is not only public", m.getModifiers() == Modifier.PUBLIC);
            }
        }
        hold("the face is " + there + ", due is " + due, due.equals(there));
        Constructor<?>[] made = c.getDeclaredConstructors();
        hold("not one public constructor", made.length == 1 && Modifier.isPublic(made[0].getModifiers())
            && made[0].getParameterCount() == 0);
    }

    private static void constants() {
        Set<String> there = new TreeSet<>();
        for (Field f : ColdShares.class.getDeclaredFields()) {
            if (!Modifier.isPrivate(f.getModifiers())) {
                there.add(f.getName());
                hold(f + " is no constant", f.getModifiers() == (Modifier.PUBLIC | Modifier.STATIC | Modifier.FINAL));
            }
            if (Modifier.isStatic(f.getModifiers())) {
                hold(f + " is not final", Modifier.isFinal(f.getModifiers()));
            }
        }
        hold("the constants are " + there, there.equals(new TreeSet<>(Arrays.asList(CONSTANTS))));
    }

    private static void classesInside() {
        Set<String> named = new TreeSet<>();
        for (String call : FACE) {
            named.add(call.replaceAll("^\\w+ |\\(.*", ""));
        }
        dueMethods(ColdShares.class, named);
        for (Class<?> inside : ColdShares.class.getDeclaredClasses()) {
            hold(inside + " is not static", Modifier.isStatic(inside.getModifiers()));
            hold(inside + " is seen from outside",
                !Modifier.isPublic(inside.getModifiers()) && !Modifier.isProtected(inside.getModifiers()));
            hold(inside + " has too many fields", inside.getDeclaredFields().length <= 20);
            dueMethods(inside, named);
        }
        hold("too many classes", ColdShares.class.getDeclaredClasses().length <= 11);
    }

    private static void dueMethods(Class<?> c, Set<String> named) {
        for (Method m : c.getDeclaredMethods()) {
            hold(m + " has too many parameters", m.getParameterCount() <= 7);
            if (!Modifier.isPublic(m.getModifiers())) {
                hold(m + " bears the name of a public one", !named.contains(m.getName()));
            }
        }
    }

    private static void source() throws Exception {
        String text = Files.readString(SOURCE, StandardCharsets.ISO_8859_1);
        String code = text.replaceAll("(?s)/\\*.*?\\*/", "").replaceAll("//[^\n]*", "");
        for (String out : RULED_OUT) {
            String sought = Character.isLetter(out.charAt(0)) ? "\\b" + out : out;
            Matcher m = Pattern.compile(Character.isLetter(out.charAt(out.length() - 1)) ? sought + "\\b" : sought).matcher(code);
            hold("the file has " + out, !m.find());
        }
        int begun = 0;
        String[] lines = text.split("\n");
        for (int i = 0; i < lines.length; i++) {
            if (lines[i].matches(" {4,8}[^ /*].*\\) \\{")) {
                begun = i;
            }
            hold("a method beyond sixty lines at line " + i, !lines[i].matches(" {4,8}\\}") || i - begun < 60);
        }
    }

    /** All calls with arguments at and beyond every edge, in all sorts of states. */
    private static void anyArguments() throws Exception {
        int[] edges = {Integer.MIN_VALUE, Integer.MIN_VALUE + 1, -1000, -9, -1, 0, 1, 2, 3, 4, 5, 6, 7, 8, 9, 10, 31, 32, 39,
            40, 41, 45, 46, 59, 60, 61, 99, 100, 255, 1000, Integer.MAX_VALUE - 1, Integer.MAX_VALUE};
        String[] streets = {"", "n99999999 h09 s09 p09 m09 c09", "n0 y99", "n00000000 c00 c00", "n9 h90 h09"};
        Method[] methods = ColdShares.class.getDeclaredMethods();
        Arrays.sort(methods, (a, b) -> a.getName().compareTo(b.getName()));
        long lot = 1;
        for (int run = 0; run < 400; run++) {
            ColdShares x = new ColdShares();
            write(x, streets[run % streets.length]);
            for (int i = 0; i < 400; i++) {
                Method m = methods[(int) ((lot = lot * 48271 % 2147483647) % methods.length)];
                if (!Modifier.isPublic(m.getModifiers())) {
                    continue;
                }
                Object[] with = new Object[m.getParameterCount()];
                for (int a = 0; a < with.length; a++) {
                    lot = lot * 48271 % 2147483647;
                    with[a] = edges[(int) (lot / 7 % (lot % 3 == 0 ? edges.length : 12))];
                }
                try {
                    m.invoke(x, with);
                } catch (java.lang.reflect.InvocationTargetException e) {
                    hold(m.getName() + Arrays.toString(with) + " threw " + e.getCause(), false);
                }
            }
        }
    }

    private static void write(ColdShares x, String signs) {
        x.text(0, signs.length());
        for (int i = 0; i < signs.length(); i++) {
            x.put(0, i, signs.charAt(i));
        }
        x.street(0);
    }

    /** All rows are made once: calls that are dear take no room of their own. */
    private static void room() {
        com.sun.management.ThreadMXBean threads = (com.sun.management.ThreadMXBean) ManagementFactory.getThreadMXBean();
        long me = Thread.currentThread().getId();
        ColdShares x = new ColdShares();
        long before = threads.getThreadAllocatedBytes(me);
        write(x, "n99999999 h09 s09 p09 h08 c09");
        for (int i = 0; i < 60; i++) {
            x.keep(i % 3);
            x.lots(1, 1 + i);
            x.on(i % 3);
            x.share(0);
            x.part(i % 5);
            x.sales();
            x.odds(i % 5);
            x.ice(i % 8, i % 46);
        }
        long taken = threads.getThreadAllocatedBytes(me) - before;
        hold("the calls took " + taken + " bytes", taken < 20000);
        before = threads.getThreadAllocatedBytes(me);
        new ColdShares();
        taken = threads.getThreadAllocatedBytes(me) - before;
        hold("a new object took " + taken + " bytes", taken < 40000);
        System.out.println("a new object takes " + taken + " bytes");
    }
}
