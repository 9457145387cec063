import java.io.IOException;
import java.lang.reflect.Constructor;
import java.lang.reflect.Field;
import java.lang.reflect.Method;
import java.lang.reflect.Modifier;
import java.nio.file.Files;
import java.nio.file.Path;
import java.util.Arrays;
import java.util.List;
import java.util.Set;
import java.util.TreeSet;
import java.util.regex.Matcher;
import java.util.regex.Pattern;

/** The public face, and the rules of LANGUAGE.md that can be read off the class and its source. */
public final class FormTest {
    private static final Path SOURCE = Path.of("src/main/java/SegmentIndex.java");

    private static final List<String> FACE = List.of(
            "int token(int, int, int, int) IllegalArgumentException IllegalStateException",
            "int add() IllegalStateException",
            "void take(int) IndexOutOfBoundsException",
            "int flush()",
            "int pack()",
            "int term(int, int, int) IllegalStateException",
            "int begins(int, int, int, int) IllegalArgumentException IllegalStateException",
            "int follow(int, int, int) IllegalArgumentException IllegalStateException",
            "int join(int) IllegalArgumentException IllegalStateException",
            "int drop() IllegalStateException",
            "int hit(int, int)",
            "int documents()",
            "int best(int)",
            "int segment(int, int)",
            "int count(int)");

    private static final List<String> RULED_OUT = List.of("->", "::", "\\bcatch\\b", "\\btry\\b", "\\bfinally\\b",
            "\\bsynchronized\\b", "\\bassert\\b", "\\bpackage\\b", "\\bfloat\\b", "\\bdouble\\b", "\\bObject\\b",
            "\\bequals\\b", "\\bhashCode\\b", "\\btoString\\b", "Exact\\b", "Arrays\\.sort", "System\\.(?!arraycopy)",
            "while \\(true\\)", "for \\(;;\\)");

    public static void main(String[] args) throws IOException {
        publicFace();
        noOtherMember();
        classesInside();
        sizes(SegmentIndex.class);
        for (Class<?> inside : SegmentIndex.class.getDeclaredClasses()) {
            sizes(inside);
        }
        source(Files.readString(SOURCE));
        Check.end();
    }

    private static void publicFace() {
        Set<String> got = new TreeSet<>();
        for (Method m : SegmentIndex.class.getDeclaredMethods()) {
            if (Modifier.isPublic(m.getModifiers()) && !Modifier.isStatic(m.getModifiers())) {
                got.add(signature(m));
            }
        }
        Check.compare("public methods", got.toString(), new TreeSet<>(FACE).toString());
        Check.compare("class", Modifier.toString(SegmentIndex.class.getModifiers()), "public final");
        Constructor<?>[] made = SegmentIndex.class.getDeclaredConstructors();
        Check.compare("constructors", Arrays.toString(made), "[public SegmentIndex()]");
    }

    private static String signature(Method m) {
        String text = m.getReturnType().getSimpleName() + " " + m.getName() + names("(", m.getParameterTypes(), ", ")
                + ")";
        String thrown = names("", m.getExceptionTypes(), " ");
        return thrown.isEmpty() ? text : text + " " + thrown;
    }

    private static String names(String before, Class<?>[] types, String between) {
        return before + String.join(between, Arrays.stream(types).map(Class::getSimpleName).toList());
    }

    private static void noOtherMember() {
        Set<String> names = new TreeSet<>();
        FACE.forEach(line -> names.add(line.substring(line.indexOf(' ') + 1, line.indexOf('('))));
        for (Field f : SegmentIndex.class.getDeclaredFields()) {
            String want = f.getName().equals("NONE") ? "public static final" : "private";
            Check.compare("field " + f.getName(), Modifier.toString(f.getModifiers()).startsWith(want) + "", "true");
            boolean open = Modifier.isStatic(f.getModifiers()) && !Modifier.isFinal(f.getModifiers());
            Check.compare("static field " + f.getName() + " can change", open + "", "false");
        }
        for (Method m : SegmentIndex.class.getDeclaredMethods()) {
            boolean open = !Modifier.isPrivate(m.getModifiers());
            Check.compare("only the face is open: " + m.getName(), open + "", names.contains(m.getName()) + "");
        }
    }

    private static void classesInside() {
        Class<?>[] inside = SegmentIndex.class.getDeclaredClasses();
        Check.compare("at most twelve classes", (inside.length < 12) + "", "true");
        for (Class<?> c : inside) {
            boolean closed = Modifier.isStatic(c.getModifiers()) && !Modifier.isPublic(c.getModifiers())
                    && !Modifier.isProtected(c.getModifiers());
            Check.compare("class " + c.getSimpleName() + " is closed and static", closed + "", "true");
            for (Method m : c.getDeclaredMethods()) {
                boolean borne = FACE.stream().anyMatch(line -> line.contains(" " + m.getName() + "("));
                Check.compare(c.getSimpleName() + "." + m.getName() + " bears a name of the face", borne + "", "false");
            }
        }
    }

    /** Rule 5, what static fields may be, and rule 11, how many parameters and fields there may be. */
    private static void sizes(Class<?> c) {
        int own = 0;
        for (Field f : c.getDeclaredFields()) {
            if (Modifier.isStatic(f.getModifiers())) {
                boolean plain = f.getType() == int.class || f.getType() == long.class;
                Check.compare("static " + c.getSimpleName() + "." + f.getName() + " is a number", plain + "", "true");
            } else {
                own++;
            }
        }
        Check.compare(c.getSimpleName() + " has at most twenty fields", (own <= 20) + "", "true");
        for (Method m : c.getDeclaredMethods()) {
            boolean few = m.getParameterCount() <= 7;
            Check.compare(c.getSimpleName() + "." + m.getName() + " takes at most seven", few + "", "true");
        }
    }

    private static void source(String text) {
        String code = text.replaceAll("(?s)/\\*.*?\\*/", "").replaceAll("//[^\n]*", "");
        for (String rule : RULED_OUT) {
            Matcher found = Pattern.compile(rule).matcher(code);
            Check.compare("source has " + rule, found.find() + "", "false");
        }
        Matcher imports = Pattern.compile("import ([^;]+);").matcher(code);
        while (imports.find()) {
            boolean listed = List.of("java.util.ArrayList", "java.util.Arrays", "java.util.List")
                    .contains(imports.group(1));
            Check.compare("import " + imports.group(1), listed + "", "true");
        }
        Matcher thrown = Pattern.compile("throw (.*)").matcher(code);
        while (thrown.find()) {
            boolean plain = thrown.group(1).matches("new Illegal(State|Argument)Exception\\(\"[^\"]*\"\\);"
                    + "|new IndexOutOfBoundsException\\(\"[^\"]*\"\\);");
            Check.compare("throw " + thrown.group(1), plain + "", "true");
        }
    }
}
