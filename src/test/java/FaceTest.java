import java.lang.reflect.Constructor;
import java.lang.reflect.Field;
import java.lang.reflect.Method;
import java.lang.reflect.Modifier;
import java.nio.file.Files;
import java.nio.file.Path;
import java.util.Arrays;
import java.util.Set;
import java.util.TreeSet;
import java.util.regex.Matcher;
import java.util.regex.Pattern;

// The public face, member by member, and those rules of LANGUAGE.md that a look can tell.
public final class FaceTest {
    private static final String FACE = "side(II)I place(IIII)I at(II)I read(I)I type(I)I undo()I wipe()I fault()I "
        + "bar(III)I laidOut(II)I lies(III)I shortest(II)I ways(II)I face(III)I farthest(I)I sit()I nearer(II)I "
        + "wires(II)I within(II)I told(IIII)I snail(IIII)I thread(IIII)I flies(IIII)I sheet(III)I lose(I)I "
        + "lay(IIII)I get(III)I copy(IIIII)I write(II)I count(I)I digest()J";
    private static int wrong = 0;

    private static void holds(String what, boolean so) {
        if (!so) {
            wrong++;
            System.out.println("not so: " + what);
        }
    }

    public static void main(String[] args) throws Exception {
        face();
        classesInside();
        words(Files.readString(Path.of(args.length > 0 ? args[0] : ".", "src/main/java/BoxSpider.java")));
        System.out.println(wrong == 0 ? "the face is as told" : wrong + " things are not as told");
        if (wrong != 0) {
            System.exit(1);
        }
    }

    private static String told(Method m) {
        StringBuilder b = new StringBuilder(m.getName()).append('(');
        for (Class<?> c : m.getParameterTypes()) {
            b.append(c == int.class ? "I" : c.getName());
        }
        return b.append(')').append(m.getReturnType() == long.class ? "J" : m.getReturnType() == int.class ? "I" : "?")
            .toString();
    }

    private static void face() throws Exception {
        Set<String> want = new TreeSet<>(Arrays.asList(FACE.split(" ")));
        Set<String> names = new TreeSet<>();
        for (String w : want) {
            names.add(w.substring(0, w.indexOf('(')));
        }
        Set<String> got = new TreeSet<>();
        for (Method m : BoxSpider.class.getDeclaredMethods()) {
            if (Modifier.isPublic(m.getModifiers()) && !Modifier.isStatic(m.getModifiers())) {
                got.add(told(m));
            } else {
                holds("private: " + m, Modifier.isPrivate(m.getModifiers()));
                holds("a name of its own: " + m, !names.contains(m.getName()));
            }
        }
        holds("the methods are " + got, got.equals(want));
        holds("final and public", Modifier.isFinal(BoxSpider.class.getModifiers())
            && Modifier.isPublic(BoxSpider.class.getModifiers()));
        Constructor<?>[] made = BoxSpider.class.getDeclaredConstructors();
        holds("one constructor", made.length == 1 && made[0].getParameterCount() == 0
            && Modifier.isPublic(made[0].getModifiers()));
        Set<String> constants = new TreeSet<>();
        for (Field f : BoxSpider.class.getDeclaredFields()) {
            if (Modifier.isPublic(f.getModifiers())) {
                constants.add(f.getName() + "=" + f.getInt(null) + " " + Modifier.toString(f.getModifiers()));
            } else {
                holds("private: " + f, Modifier.isPrivate(f.getModifiers()));
            }
            holds("static is final: " + f, !Modifier.isStatic(f.getModifiers()) || Modifier.isFinal(f.getModifiers()));
        }
        holds("the constants are " + constants, constants.equals(new TreeSet<>(Arrays.asList(
            "BAD=-2 public static final", "FULL=-4 public static final", "NONE=-1 public static final",
            "NOT=-3 public static final"))));
    }

    private static void classesInside() {
        Class<?>[] inside = BoxSpider.class.getDeclaredClasses();
        holds("at most twelve classes", inside.length + 1 <= 12);
        Set<String> names = new TreeSet<>();
        for (Method m : BoxSpider.class.getMethods()) {
            names.add(m.getName());
        }
        for (Class<?> c : inside) {
            holds("static: " + c, Modifier.isStatic(c.getModifiers()) && !Modifier.isPublic(c.getModifiers()));
            holds("few fields: " + c, c.getDeclaredFields().length <= 20);
            for (Method m : c.getDeclaredMethods()) {
                holds("at most seven parameters: " + m, m.getParameterCount() <= 7);
                holds("a name of its own: " + m, !names.contains(m.getName()));
            }
        }
    }

    private static void words(String source) {
        String code = source.replaceAll("(?s)/\\*.*?\\*/", " ").replaceAll("//[^\n]*", " ");
        String[] unwanted = {"throw", "throws", "try", "catch", "finally", "synchronized", "assert", "import", "package",
            "protected", "hashCode", "toString", "volatile", "transient", "native", "instanceof"};
        for (String w : unwanted) {
            holds("no word " + w, !Pattern.compile("\\b" + w + "\\b").matcher(code).find());
        }
        holds("no lambda, no method reference", !code.contains("->") && !code.contains("::"));
        Matcher library = Pattern.compile("\\b(Math|Integer|Long|System|Arrays|String|StringBuilder)\\s*\\.\\s*(\\w+)")
            .matcher(code);
        Set<String> fine = Set.of("Math.min", "Math.max", "Math.abs", "Integer.bitCount", "System.arraycopy");
        while (library.find()) {
            holds("of the library: " + library.group(), fine.contains(library.group(1) + "." + library.group(2)));
        }
        holds("plain signs", source.chars().allMatch(c -> c == '\n' || c >= 32 && c < 127));
    }
}
