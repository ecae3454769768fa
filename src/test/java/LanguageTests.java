import java.io.IOException;
import java.lang.management.ManagementFactory;
import java.lang.reflect.Constructor;
import java.lang.reflect.Field;
import java.lang.reflect.Method;
import java.lang.reflect.Modifier;
import java.nio.file.Files;
import java.nio.file.Path;
import java.util.ArrayList;
import java.util.Arrays;
import java.util.List;
import java.util.Set;
import java.util.TreeSet;
import java.util.regex.Matcher;
import java.util.regex.Pattern;

/** The public face, and those rules of LANGUAGE.md that can be read off the file (its path is told) or measured. */
public final class LanguageTests {
    private static final String[] FACE = {
        "int type(int)", "int clear()", "int capital()", "int lane(int,int)", "int person(int,int)",
        "int goes(int,int)", "int meets(int,int,int)", "int claims(int,int)", "int patents(int,int)",
        "int shuts(int,int)", "int undo()", "int now(int)", "int way(int,int,int)", "int lacks(int,int)",
        "int must(int,int)", "int odds(int,int,int,int)", "int meeting(int,int,int)", "int theatre(int,int)",
        "int narrow(int)", "int order(int)", "int gate(int,int)", "int forget()", "int fits(int)",
        "int mark(int,int)", "int keep(int)", "int back(int)", "int count(int)", "long trace()",
        "int BAD", "int STATE", "int FULL", "int NONE", "int NO", "ElbowRanks()",
    };
    private static final String[] LEFT_OUT = {
        "throw", "throws", "try", "catch", "finally", "synchronized", "assert", "import", "package", "native",
        "volatile", "float", "double", "var", "equals", "hashCode", "toString",
    };
    /** A member's first line, as this file is laid out. */
    private static final Pattern METHOD = Pattern.compile(
            "^( +)(?:public |private |static |final )*[A-Za-z\\[\\]]+ ?[A-Za-z]*\\(.*\\) \\{$");

    public static void main(String[] args) throws IOException {
        theFace();
        theClasses();
        String code = codeOf(Path.of(args[0]));
        theWords(code);
        theLengths(code);
        whatCallsMake();
        Checks.end();
    }

    private static void theFace() {
        Checks.part("rule 1");
        Set<String> face = new TreeSet<>(Arrays.asList(FACE));
        Set<String> found = new TreeSet<>();
        Set<String> names = new TreeSet<>();
        for (Method m : ElbowRanks.class.getDeclaredMethods()) {
            if (!Modifier.isPrivate(m.getModifiers())) {
                found.add(m.getReturnType() + " " + m.getName() + "(" + types(m.getParameterTypes()) + ")");
                names.add(m.getName());
                Checks.holds(m + " is public", Modifier.isPublic(m.getModifiers()));
            }
        }
        for (Field f : ElbowRanks.class.getDeclaredFields()) {
            if (!Modifier.isPrivate(f.getModifiers())) {
                found.add(f.getType() + " " + f.getName());
                Checks.due(f + " is public static final", f.getModifiers(),
                        Modifier.PUBLIC | Modifier.STATIC | Modifier.FINAL);
            }
        }
        for (Constructor<?> c : ElbowRanks.class.getDeclaredConstructors()) {
            found.add("ElbowRanks(" + types(c.getParameterTypes()) + ")");
            Checks.holds("the constructor is public", Modifier.isPublic(c.getModifiers()));
        }
        Checks.holds("the face is " + face + ", not " + found, face.equals(found));
        Checks.due("public final", ElbowRanks.class.getModifiers(), Modifier.PUBLIC | Modifier.FINAL);
        for (Class<?> c : allClasses()) {
            for (Method m : c.getDeclaredMethods()) {
                boolean isOwn = c != ElbowRanks.class || Modifier.isPrivate(m.getModifiers());
                Checks.holds(m + " bears a public one's name", !isOwn || !names.contains(m.getName()));
            }
        }
    }

    private static String types(Class<?>[] types) {
        List<String> names = new ArrayList<>();
        for (Class<?> type : types) {
            names.add(type.getName());
        }
        return String.join(",", names);
    }

    private static List<Class<?>> allClasses() {
        List<Class<?>> all = new ArrayList<>();
        all.add(ElbowRanks.class);
        all.addAll(Arrays.asList(ElbowRanks.class.getDeclaredClasses()));
        return all;
    }

    private static void theClasses() {
        Checks.part("rules 2, 5, 11");
        Checks.holds("some twelve classes", allClasses().size() <= 12);
        for (Class<?> c : allClasses()) {
            int fields = 0;
            for (Field f : c.getDeclaredFields()) {
                boolean isStatic = Modifier.isStatic(f.getModifiers());
                Checks.holds(f + " is final", !isStatic || Modifier.isFinal(f.getModifiers()));
                fields += isStatic ? 0 : 1;
            }
            Checks.holds(c + " has some twenty fields", fields <= 20);
            for (Method m : c.getDeclaredMethods()) {
                Checks.holds(m + " has seven parameters", m.getParameterCount() <= 7);
                Checks.holds(m + " is the compiler's own", !m.isSynthetic());
            }
            boolean isInside = c != ElbowRanks.class;
            Checks.holds(c + " is static", !isInside || Modifier.isStatic(c.getModifiers()));
            Checks.holds(c + " is not public", !isInside || !Modifier.isPublic(c.getModifiers()));
            Checks.due(c + " has classes inside", isInside ? c.getDeclaredClasses().length : 0, 0);
        }
    }

    /** The file less its comments. */
    private static String codeOf(Path path) throws IOException {
        String file = Files.readString(path);
        Checks.part("rule 4");
        Checks.holds("signs are 1 to 127", file.chars().allMatch(c -> c >= 1 && c <= 127));
        return file.replaceAll("(?s)/\\*.*?\\*/", "").replaceAll("//[^\n]*", "");
    }

    private static void theWords(String code) {
        Checks.part("rules 2, 4, 6, 12");
        Set<String> words = new TreeSet<>(Arrays.asList(code.split("[^A-Za-z]+")));
        for (String word : LEFT_OUT) {
            Checks.holds("there is no " + word, !words.contains(word));
        }
        Checks.holds("there is no lambda", !code.contains("->"));
        Checks.holds("there is no method reference", !code.contains("::"));
        Checks.holds("there is no text", !code.contains("\""));
        Matcher calls = Pattern.compile("\\b(Math|Integer|Long|System|Arrays|List|String)\\.(\\w+)").matcher(code);
        Set<String> used = new TreeSet<>();
        while (calls.find()) {
            used.add(calls.group());
        }
        used.removeAll(Set.of("Math.abs", "Math.max", "Math.min", "Integer.bitCount"));
        Checks.holds("the library is used no farther: " + used, used.isEmpty());
    }

    private static void theLengths(String code) {
        Checks.part("rule 11");
        String[] lines = code.split("\n");
        int methods = 0;
        for (int i = 0; i < lines.length; i++) {
            Matcher m = METHOD.matcher(lines[i]);
            if (m.matches() && !lines[i].matches(" *(if|for|while|switch) .*")) {
                methods++;
                int end = i;
                while (!lines[end].equals(m.group(1) + "}")) {
                    end++;
                }
                Checks.holds("some sixty lines: " + lines[i], end - i <= 40);
            }
        }
        Checks.holds("there are methods", methods > 60);
    }

    /** An object makes all that it needs when it is made: later calls make nothing. */
    private static void whatCallsMake() {
        Checks.part("rule 12");
        com.sun.management.ThreadMXBean threads =
                (com.sun.management.ThreadMXBean) ManagementFactory.getThreadMXBean();
        byte[] text = ("n8;l0 1 30;l1 2 20;l2 3 18;l3 4 30;l4 5 25;l5 6 22;l6 7 40;l7 0 14;"
                + "p5 0;p4 1;p3 2;p2 3;p1 4;b3;e2;").getBytes();
        ElbowRanks[] x = new ElbowRanks[40];
        for (int i = 0; i < x.length; i++) {
            x[i] = new ElbowRanks();
        }
        useAll(x[0], text);
        long before = threads.getCurrentThreadAllocatedBytes();
        for (int i = 1; i < x.length; i++) {
            useAll(x[i], text);
        }
        long made = threads.getCurrentThreadAllocatedBytes() - before;
        // The measuring makes some hundred bytes of its own.
        Checks.holds("calls make nothing, not " + made + " bytes", made < 4000);
    }

    private static void useAll(ElbowRanks x, byte[] text) {
        for (byte c : text) {
            x.type(c);
        }
        x.capital();
        for (int p = 0; p < 5; p++) {
            x.goes(p, p);
            x.meets(p, p + 1, p);
            x.claims(p, p + 1);
            x.patents(p, 9 - p);
            x.shuts(p, p % 2);
            x.keep(p % 2);
            x.undo();
            x.back(p % 2);
            x.gate(p, 10);
            x.fits(p);
            x.order(p);
            x.narrow(p);
            x.theatre(20, p);
            x.meeting(p, p + 1, p);
            for (int i = 0; i < 8; i++) {
                x.way(p, i, i - 1);
                x.lacks(p, i);
                x.must(p, i);
                x.odds(p, i, i, i % 2);
                x.mark(i, p);
                x.person(p, i);
                x.lane(p, i);
                x.now(i);
                x.count(i);
            }
        }
        x.forget();
        x.clear();
        x.trace();
    }
}
