import java.lang.reflect.Constructor;
import java.lang.reflect.Field;
import java.lang.reflect.Method;
import java.lang.reflect.Modifier;
import java.nio.file.Files;
import java.nio.file.Path;
import java.util.Arrays;
import java.util.HashMap;
import java.util.List;
import java.util.Map;
import java.util.Set;
import java.util.TreeSet;
import java.util.regex.Matcher;
import java.util.regex.Pattern;

/** The face of the document, and those rules of LANGUAGE.md that can be seen from the text and the class. */
public final class LanguageTest {
    private static final String[] FACE = {"bay 4", "ofCell 2", "shine 1", "silt 2", "dry 1", "pour 2", "cracks 1", "way 2",
        "plan 5", "when 1", "opens 0", "bars 1", "dates 1", "reading 3", "back 1", "wets 1", "kinds 1", "suns 0", "odds 1",
        "sheet 3", "lose 1", "put 3", "cell 3", "copy 5", "tell 1", "draw 1", "as 2", "trace 0", "fault 0", "many 1"};
    private static final Set<String> LONGS = Set.of("odds", "cell");
    private static final Set<String> CONSTANTS = Set.of("UNKNOWN", "OUTSIDE", "STATE", "FULL", "NONE", "LOST");
    private static final String[] BANNED = {"\\bthrow\\b", "\\btry\\b", "\\bcatch\\b", "\\bsynchronized\\b", "\\bassert\\b",
        "->", "::", "\\bimport\\b", "\\bpackage\\b", "\\w+Exact\\b", "\\bhashCode\\b", "\\btoString\\b", "static\\s*\\{",
        "\\bObject\\b", "while\\s*\\(\\s*true", "for\\s*\\(\\s*;\\s*;"};
    private static final int LONGEST_METHOD = 60, MOST_PARAMETERS = 7, MOST_CLASSES = 12, MOST_FIELDS = 20, DEEPEST_CALLS = 8;
    /** What the class takes of the library; LANGUAGE.md allows more. */
    private static final Set<String> LIBRARY = Set.of("Integer.bitCount", "Integer.lowestOneBit", "Math.max", "Math.min",
        "System.arraycopy", "Long.MIN_VALUE");
    private static final Set<Class<?>> CONSTANT_TYPES = Set.of(int.class, long.class, boolean.class, char.class, String.class);
    /** The first line of a method or constructor, of the class or of one inside it. */
    private static final Pattern HEAD = Pattern.compile("(    |        )((?:\\w[\\w\\[\\]]* )*)(\\w+)\\([^()]*\\) \\{");

    private static final Due due = new Due();

    public static void main(String[] args) throws Exception {
        face();
        classes();
        String source = Files.readString(Path.of("src/main/java/DriedMap.java"));
        String bare = source.replaceAll("(?s)/\\*.*?\\*/", "").replaceAll("//[^\n]*", "");
        due.is("signs are plain", source.chars().allMatch(s -> s < 127) ? 1 : 0, 1);
        text(bare);
        library(bare);
        loopsAndDivisors(bare);
        methods(bare);
        due.end();
    }

    private static void face() {
        Set<String> found = new TreeSet<>();
        for (Method m : DriedMap.class.getDeclaredMethods()) {
            if (Modifier.isPrivate(m.getModifiers())) {
                continue;
            }
            found.add(m.getName() + " " + m.getParameterCount());
            due.is(m + " is public", Modifier.isPublic(m.getModifiers()) ? 1 : 0, 1);
            due.is(m + " answers as told", m.getReturnType() == (LONGS.contains(m.getName()) ? long.class : int.class) ? 1 : 0, 1);
            due.is(m + " takes ints", Arrays.stream(m.getParameterTypes()).allMatch(t -> t == int.class) ? 1 : 0, 1);
        }
        due.is("the face " + found, found.equals(new TreeSet<>(List.of(FACE))) ? 1 : 0, 1);
        for (Field f : DriedMap.class.getDeclaredFields()) {
            boolean constant = CONSTANTS.contains(f.getName());
            due.is(f + " is seen or not", Modifier.isPublic(f.getModifiers()) == constant ? 1 : 0, 1);
            due.is(f + " is private or public", f.getModifiers() & (Modifier.PRIVATE | Modifier.PUBLIC), constant ? 1 : 2);
        }
        Constructor<?>[] made = DriedMap.class.getDeclaredConstructors();
        due.is("constructors", made.length, 1);
        due.is("it takes nothing", made[0].getParameterCount(), 0);
        due.is("it is public", Modifier.isPublic(made[0].getModifiers()) ? 1 : 0, 1);
        due.is("the class is public and final", DriedMap.class.getModifiers(), Modifier.PUBLIC | Modifier.FINAL);
    }

    private static void classes() {
        Class<?>[] inside = DriedMap.class.getDeclaredClasses();
        due.is("classes are few", inside.length < MOST_CLASSES ? 1 : 0, 1);
        onClass(DriedMap.class);
        for (Class<?> c : inside) {
            due.is(c + " is static", Modifier.isStatic(c.getModifiers()) ? 1 : 0, 1);
            due.is(c + " is not public", c.getModifiers() & (Modifier.PUBLIC | Modifier.PROTECTED), 0);
            onClass(c);
        }
    }

    private static void onClass(Class<?> c) {
        int fields = 0;
        for (Field f : c.getDeclaredFields()) {
            boolean isStatic = Modifier.isStatic(f.getModifiers());
            fields += isStatic ? 0 : 1;
            due.is(f + ", if static, is final", !isStatic || Modifier.isFinal(f.getModifiers()) ? 1 : 0, 1);
            due.is(f + ", if static, is a constant", !isStatic || CONSTANT_TYPES.contains(f.getType()) ? 1 : 0, 1);
        }
        due.is("fields of " + c + " are few", fields <= MOST_FIELDS ? 1 : 0, 1);
        for (Method m : c.getDeclaredMethods()) {
            boolean open = c == DriedMap.class && Modifier.isPublic(m.getModifiers());
            boolean ofFace = Arrays.stream(FACE).anyMatch(name -> name.startsWith(m.getName() + " "));
            due.is(m + " bears no name of the face", ofFace && !open ? 1 : 0, 0);
            due.is(m + " takes few", m.getParameterCount() <= MOST_PARAMETERS ? 1 : 0, 1);
        }
    }

    private static void text(String bare) {
        for (String word : BANNED) {
            Matcher m = Pattern.compile(word).matcher(bare);
            due.is("no " + word, m.find() ? 1 : 0, 0);
        }
    }

    private static void library(String bare) {
        Matcher m = Pattern.compile("\\b([A-Z][a-z]\\w*\\.\\w+)").matcher(bare);
        while (m.find()) {
            due.is(m.group(1) + " is of the library that is known", LIBRARY.contains(m.group(1)) ? 1 : 0, 1);
        }
    }

    /** Rules 7 and 9: loops count, and what divides is a number that is written out and not 0. */
    private static void loopsAndDivisors(String bare) {
        due.is("no while, do", Pattern.compile("\\b(while|do)\\b").matcher(bare).find() ? 1 : 0, 0);
        Matcher loop = Pattern.compile("\\bfor \\((.*)\\) \\{").matcher(bare);
        while (loop.find()) {
            boolean counts = loop.group(1).matches("int (\\w+) = [^;]+; \\1 (<|<=|>) [^;]+; \\1(\\+\\+|--)");
            due.is("it counts: for (" + loop.group(1) + ")", counts ? 1 : 0, 1);
        }
        Matcher divisor = Pattern.compile("[/%]=?\\s*(\\S+?)[;,)\\s]").matcher(bare);
        while (divisor.find()) {
            due.is("the divisor " + divisor.group(1), divisor.group(1).matches("[1-9]\\d*") ? 1 : 0, 1);
        }
    }

    /** Rules 8, 11 and 12: methods are short, none calls itself, they stand few deep; only constructors make objects. */
    private static void methods(String bare) {
        Map<String, String> bodies = new HashMap<>();
        String[] lines = bare.split("\n");
        for (int k = 0; k < lines.length; k++) {
            Matcher head = HEAD.matcher(lines[k]);
            if (!head.matches()) {
                continue;
            }
            StringBuilder body = new StringBuilder();
            int began = k;
            for (k++; k < lines.length && !lines[k].equals(head.group(1) + "}"); k++) {
                body.append(lines[k]).append('\n');
            }
            String name = head.group(3);
            boolean makes = head.group(2).isEmpty() || head.group(2).equals("public ");
            due.is("lines of " + name, k - began + 1 <= LONGEST_METHOD ? 1 : 0, 1);
            due.is(name + " makes an object", !makes && body.toString().matches("(?s).*\\bnew\\b.*") ? 1 : 0, 0);
            due.is("names are borne once: " + name, bodies.put(name, body.toString()) == null ? 1 : 0, 1);
        }
        int declared = DriedMap.class.getDeclaredMethods().length + DriedMap.class.getDeclaredConstructors().length;
        for (Class<?> c : DriedMap.class.getDeclaredClasses()) {
            declared += c.getDeclaredMethods().length + c.getDeclaredConstructors().length;
        }
        due.is("methods that were found", bodies.size(), declared);
        for (String name : bodies.keySet()) {
            due.is("calls that stand open below " + name, depth(name, bodies, 1) <= DEEPEST_CALLS ? 1 : 0, 1);
        }
    }

    /** How many calls stand open at once from a method on; one that calls itself goes beyond all bounds. */
    private static int depth(String name, Map<String, String> bodies, int ahead) {
        int deepest = ahead;
        Matcher call = Pattern.compile("\\b(\\w+)\\(").matcher(bodies.get(name));
        while (ahead <= DEEPEST_CALLS && call.find()) {
            if (bodies.containsKey(call.group(1))) {
                deepest = Math.max(deepest, depth(call.group(1), bodies, ahead + 1));
            }
        }
        return deepest;
    }
}
