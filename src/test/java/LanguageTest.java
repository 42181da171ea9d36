import java.io.IOException;
import java.lang.management.ManagementFactory;
import java.lang.reflect.Field;
import java.lang.reflect.Method;
import java.lang.reflect.Modifier;
import java.nio.file.Files;
import java.nio.file.Path;
import java.util.ArrayList;
import java.util.List;
import java.util.Set;
import java.util.TreeSet;
import java.util.regex.Matcher;
import java.util.regex.Pattern;

// Those rules of LANGUAGE.md that can be seen from the text of the class or from the class itself.
public final class LanguageTest {
    private static final Path SOURCE = Path.of("src/main/java/CapStacks.java");
    private static final Set<String> FACE = Set.of("shareClass", "holder", "issue", "split", "buyBack", "grant", "take", "leave",
        "pass", "round", "takeUp", "close", "roundOf", "classOf", "certificateOf", "grantOf", "holderOf", "count", "converts",
        "classGets", "holderGets", "byGain", "undo", "type", "clearText", "fault", "play");
    private static final Set<String> CONSTANTS = Set.of("INVALID_ARGUMENT", "NOT_POSSIBLE", "LIMIT_REACHED", "NOT_FOUND");
    private static final Set<String> LIBRARY = Set.of("System.arraycopy", "Math.min", "Math.max");

    private static int wrong = 0;

    private static void broken(int rule, String what) {
        wrong++;
        System.out.println("rule " + rule + ": " + what);
    }

    private static void face() {
        Set<String> open = new TreeSet<>();
        for (Method m : CapStacks.class.getDeclaredMethods()) {
            if (Modifier.isPublic(m.getModifiers())) {
                open.add(m.getName());
            } else if (!Modifier.isPrivate(m.getModifiers())) {
                broken(1, m.getName() + " is neither public nor private");
            } else if (FACE.contains(m.getName())) {
                broken(1, m.getName() + " is private and bears a public name");
            }
        }
        if (!open.equals(new TreeSet<>(FACE))) {
            broken(1, "the public methods are " + open);
        }
        for (Field f : CapStacks.class.getDeclaredFields()) {
            if (!Modifier.isPrivate(f.getModifiers()) && !CONSTANTS.contains(f.getName())) {
                broken(1, f.getName() + " is not private");
            }
        }
        if (!Modifier.isFinal(CapStacks.class.getModifiers()) || CapStacks.class.getConstructors().length != 1) {
            broken(1, "the class is not final or has not one public constructor");
        }
    }

    private static void classesInside() {
        List<Class<?>> all = new ArrayList<>(List.of(CapStacks.class.getDeclaredClasses()));
        if (all.size() + 1 > 12) {
            broken(11, "there are " + all.size() + " classes inside");
        }
        all.add(CapStacks.class);
        for (Class<?> c : all) {
            if (c != CapStacks.class && !Modifier.isStatic(c.getModifiers())) {
                broken(2, c.getName() + " is not static");
            }
            fieldsOf(c);
            for (Method m : c.getDeclaredMethods()) {
                if (m.getParameterCount() > 7) {
                    broken(11, m.getName() + " takes too many parameters");
                }
                if (c != CapStacks.class && FACE.contains(m.getName())) {
                    broken(1, m.getName() + " of " + c.getName() + " bears a public name");
                }
            }
        }
    }

    private static void fieldsOf(Class<?> c) {
        int own = 0;
        for (Field f : c.getDeclaredFields()) {
            boolean fixed = Modifier.isStatic(f.getModifiers());
            own += fixed ? 0 : 1;
            if (fixed && !Modifier.isFinal(f.getModifiers())) {
                broken(5, f.getName() + " is static and not final");
            }
        }
        if (own > 20) {
            broken(11, c.getName() + " has " + own + " fields");
        }
    }

    private static void words(String code) {
        Matcher m = Pattern.compile("\\b(throw|throws|try|catch|synchronized|assert|import|package|equals|hashCode|toString|\\w+Exact)\\b|->|::")
            .matcher(code);
        while (m.find()) {
            broken(6, "the text has " + m.group());
        }
        Matcher library = Pattern.compile("\\b(System|Math|Integer|Long|Arrays)\\.\\w+").matcher(code);
        while (library.find()) {
            if (!LIBRARY.contains(library.group())) {
                broken(4, "the text has " + library.group());
            }
        }
        for (int i = 0; i < code.length(); i++) {
            if (code.charAt(i) != '\n' && (code.charAt(i) < 32 || code.charAt(i) > 126)) {
                broken(4, "the text has the sign " + (int) code.charAt(i));
            }
        }
    }

    /** A method begins with a line that ends with "{" and ends with a "}" at the same depth. */
    private static void lengths(List<String> lines) {
        for (int i = 0; i < lines.size(); i++) {
            String line = lines.get(i);
            String lead = line.substring(0, line.length() - line.stripLeading().length());
            if (!line.endsWith("{") || !line.contains("(") || line.matches("\\s*(if|for|while|switch|\\}|\\|\\||&&).*")) {
                continue;
            }
            int end = i;
            while (end < lines.size() && !lines.get(end).equals(lead + "}")) {
                end++;
            }
            if (end - i + 1 > 60) {
                broken(11, "too long: " + line.strip());
            }
        }
    }

    /** The dearest calls make nothing, so that the room of a run holds whatever the calls are. */
    private static void room() {
        CapStacks x = new CapStacks();
        for (int i = 0; i < 4; i++) {
            x.shareClass(1 + i, 1, i, i % 3, 4);
            x.holder();
            x.issue(0, i, 100);
        }
        for (int i = 0; i < 80; i++) {
            x.type("pass 1;".charAt(i % 7));
        }
        com.sun.management.ThreadMXBean threads = (com.sun.management.ThreadMXBean) ManagementFactory.getThreadMXBean();
        long thread = Thread.currentThread().getId();
        threads.getThreadAllocatedBytes(thread);
        long before = threads.getThreadAllocatedBytes(thread);
        for (int i = 0; i < 100; i++) {
            x.fault(0);
            x.play();
            x.holderGets(1000, 0);
            x.byGain(1000, 0);
            x.holderOf(0, 9);
        }
        long made = threads.getThreadAllocatedBytes(thread) - before;
        if (made > 10000) {
            broken(12, "five hundred calls make " + made + " bytes");
        }
    }

    public static void main(String[] args) throws IOException {
        String source = Files.readString(SOURCE);
        room();
        face();
        classesInside();
        words(source.replaceAll("(?s)/\\*.*?\\*/", "").replaceAll("//[^\n]*", ""));
        lengths(source.lines().toList());
        System.out.println(wrong == 0 ? "no rule is seen broken" : wrong + " rules are broken");
        if (wrong != 0) {
            System.exit(1);
        }
    }
}
