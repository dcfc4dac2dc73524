import java.lang.reflect.Constructor;
import java.lang.reflect.Field;
import java.lang.reflect.Method;
import java.lang.reflect.Modifier;
import java.nio.file.Files;
import java.nio.file.Path;
import java.util.Arrays;
import java.util.Set;
import java.util.TreeSet;
import java.util.regex.Matcher;
import java.util.regex.Pattern;

// The public face, member by member, and those rules of LANGUAGE.md that a look can tell.
public final class FaceTest {
    private static int wrong = 0;

    private static void holds(String what, boolean so) {
        if (!so) {
            wrong++;
            System.out.println("not so: " + what);
        }
    }

    public static void main(String[] args) throws Exception {
        String document = Sentences.document(args);
        String source = Files.readString(Path.of(args.length > 0 ? args[0] : ".", "src/main/java/BoxSpider.java"));
        members(between(document, "```java\n", "```"));
        headings(document, source);
        classesInside();
        words(source);
        System.out.println(wrong == 0 ? "the face is as told" : wrong + " things are not as told");
        if (wrong != 0) {
            System.exit(1);
        }
    }

    private static String between(String text, String before, String behind) {
        int from = text.indexOf(before);
        int to = from < 0 ? -1 : text.indexOf(behind, from + before.length());
        holds("there is: " + before, to >= 0);
        return to < 0 ? "" : text.substring(from + before.length(), to);
    }

    /** As the document writes it, but without the names of the parameters. */
    private static String told(Method m) {
        StringBuilder b = new StringBuilder(Modifier.toString(m.getModifiers())).append(' ')
            .append(m.getReturnType().getName()).append(' ').append(m.getName()).append('(');
        for (Class<?> c : m.getParameterTypes()) {
            b.append(b.charAt(b.length() - 1) == '(' ? "" : ", ").append(c.getName());
        }
        return b.append(')').toString();
    }

    private static void members(String face) throws Exception {
        Set<String> want = new TreeSet<>();
        Set<String> names = new TreeSet<>();
        Matcher method = Pattern.compile("public (int|long) (\\w+)\\(([^)]*)\\);").matcher(face);
        while (method.find()) {
            names.add(method.group(2));
            want.add(method.group().replaceAll("(int|long) \\w+([,)])", "$1$2").replace(";", ""));
        }
        Set<String> got = new TreeSet<>();
        for (Method m : BoxSpider.class.getDeclaredMethods()) {
            if (Modifier.isPrivate(m.getModifiers())) {
                holds("a name of its own: " + m, !names.contains(m.getName()));
            } else {
                got.add(told(m));
            }
        }
        holds("the methods are " + got + ", not " + want, got.equals(want) && want.size() == 31);
        holds("public and final", face.startsWith(Modifier.toString(BoxSpider.class.getModifiers()) + " class BoxSpider {"));
        Constructor<?>[] made = BoxSpider.class.getDeclaredConstructors();
        holds("one constructor", made.length == 1 && face.contains("    " + made[0].toString() + ";"));
        constants(between(face, "public static final int ", ";"));
    }

    private static void constants(String told) throws Exception {
        Set<String> got = new TreeSet<>();
        for (Field f : BoxSpider.class.getDeclaredFields()) {
            boolean shared = Modifier.isStatic(f.getModifiers());
            holds("static is final: " + f, !shared || Modifier.isFinal(f.getModifiers()));
            if (!Modifier.isPrivate(f.getModifiers())) {
                holds("a constant: " + f, Modifier.toString(f.getModifiers()).equals("public static final"));
                got.add(f.getName() + " = " + f.getInt(null));
            }
        }
        holds("the constants are " + got, got.equals(new TreeSet<>(Arrays.asList(told.split(", ")))));
    }

    /** The calls stand in the document's order, under the headings that it tells. */
    private static void headings(String document, String source) {
        Matcher heading = Pattern.compile("Ahead of the calls (.*) the interface says: (---- .*)\\.\n").matcher(document);
        int at = 0;
        int calls = 0;
        while (heading.find()) {
            at = endOf("\n    // " + Pattern.quote(heading.group(2)) + "\n", source, at);
            for (String name : heading.group(1).replace("`", "").split(", ")) {
                at = endOf("\n    public (int|long) " + name + "\\(", source, at);
                calls++;
            }
        }
        holds("31 calls stand under headings", calls == 31);
    }

    private static int endOf(String pattern, String source, int from) {
        Matcher m = Pattern.compile(pattern).matcher(source);
        boolean there = m.find(from);
        holds("in its turn: " + pattern, there);
        return there ? m.end() : from;
    }

    private static void classesInside() {
        Class<?>[] inside = BoxSpider.class.getDeclaredClasses();
        holds("at most twelve classes", inside.length + 1 <= 12);
        Set<String> names = new TreeSet<>();
        for (Method m : BoxSpider.class.getMethods()) {
            names.add(m.getName());
        }
        for (Class<?> c : inside) {
            holds("static: " + c, Modifier.isStatic(c.getModifiers()) && !Modifier.isPublic(c.getModifiers()));
            holds("few fields: " + c, c.getDeclaredFields().length <= 20);
            for (Method m : c.getDeclaredMethods()) {
                holds("at most seven parameters: " + m, m.getParameterCount() <= 7);
                holds("a name of its own: " + m, !names.contains(m.getName()));
            }
        }
    }

    private static void words(String source) {
        String code = source.replaceAll("(?s)/\\*.*?\\*/", " ").replaceAll("//[^\n]*", " ");
        String[] unwanted = {"throw", "throws", "try", "catch", "finally", "synchronized", "assert", "import", "package",
            "protected", "hashCode", "toString", "volatile", "transient", "native", "instanceof"};
        for (String w : unwanted) {
            holds("no word " + w, !Pattern.compile("\\b" + w + "\\b").matcher(code).find());
        }
        holds("no lambda, no method reference", !code.contains("->") && !code.contains("::"));
        Matcher library = Pattern.compile("\\b(Math|Integer|Long|System|Arrays|String|StringBuilder)\\s*\\.\\s*(\\w+)")
            .matcher(code);
        Set<String> fine = Set.of("Math.min", "Math.max", "Math.abs", "Integer.bitCount", "System.arraycopy");
        while (library.find()) {
            holds("of the library: " + library.group(), fine.contains(library.group(1) + "." + library.group(2)));
        }
        holds("plain signs", source.chars().allMatch(c -> c == '\n' || c >= 32 && c < 127));
    }
}
