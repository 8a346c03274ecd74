import java.io.IOException;
import java.lang.reflect.Constructor;
import java.lang.reflect.Field;
import java.lang.reflect.Method;
import java.lang.reflect.Modifier;
import java.nio.file.Files;
import java.nio.file.Path;
import java.util.Arrays;
import java.util.List;
import java.util.TreeSet;
import java.util.regex.Matcher;
import java.util.regex.Pattern;

/** The public face as the document prints it, and what LANGUAGE.md rules out as far as it can be seen from outside. */
public final class FormTest {
    private static final Due DUE = new Due();

    public static void main(String[] args) throws IOException {
        face();
        members();
        inner();
        text();
        DUE.end();
    }

    /** Every line of the document's face is there, and nothing else is public. */
    private static void face() throws IOException {
        String doc = Files.readString(Path.of("../shared/DOC.md"));
        String block = doc.substring(doc.indexOf("```java"), doc.indexOf("## Terms"));
        TreeSet<String> want = new TreeSet<>();
        Matcher m = Pattern.compile("public (\\w+) (\\w+)\\(([^)]*)\\)(?: throws ([^;]*))?;").matcher(block);
        while (m.find()) {
            String types = m.group(3).replaceAll("(\\w+) \\w+", "$1");
            want.add(m.group(1) + " " + m.group(2) + "(" + types + ") " + (m.group(4) == null ? "" : m.group(4)));
        }
        TreeSet<String> got = new TreeSet<>();
        for (Method method : MiddleScale.class.getDeclaredMethods()) {
            if (Modifier.isPublic(method.getModifiers())) {
                got.add(method.getReturnType() + " " + method.getName() + "(" + names(method.getParameterTypes()) + ") "
                    + names(method.getExceptionTypes()));
            }
        }
        DUE.is("how many methods the document's face has", want.size(), 49);
        DUE.is("the face", got, want);
    }

    private static String names(Class<?>[] types) {
        StringBuilder b = new StringBuilder();
        for (Class<?> type : types) {
            b.append(b.length() > 0 ? ", " : "").append(type.getSimpleName());
        }
        return b.toString();
    }

    private static void members() {
        Class<?> c = MiddleScale.class;
        DUE.is("public and final", c.getModifiers(), Modifier.PUBLIC | Modifier.FINAL);
        for (Field f : c.getDeclaredFields()) {
            int open = f.getName().equals("NONE") ? Modifier.PUBLIC : Modifier.PRIVATE;
            DUE.is("open: " + f, f.getModifiers() & 7, open);
        }
        for (Constructor<?> k : c.getDeclaredConstructors()) {
            DUE.is("constructor: " + k, k.getModifiers() + " " + k.getParameterCount(), "1 0");
        }
        for (Method m : c.getDeclaredMethods()) {
            boolean fine = Modifier.isPublic(m.getModifiers()) || Modifier.isPrivate(m.getModifiers());
            DUE.is("public or private: " + m, fine, true);
        }
    }

    private static void inner() {
        TreeSet<String> face = new TreeSet<>();
        for (Method m : MiddleScale.class.getMethods()) {
            face.add(m.getName());
        }
        Class<?>[] classes = MiddleScale.class.getDeclaredClasses();
        DUE.is("no more than twelve classes", classes.length <= 11, true);
        for (Class<?> c : classes) {
            DUE.is("static: " + c, Modifier.isStatic(c.getModifiers()), true);
            DUE.is("private or package-visible: " + c, c.getModifiers() & (Modifier.PUBLIC | Modifier.PROTECTED), 0);
            methods(c, face);
            fields(c);
        }
        methods(MiddleScale.class, new TreeSet<>());
        for (Method m : MiddleScale.class.getDeclaredMethods()) {
            boolean hidden = Modifier.isPrivate(m.getModifiers());
            DUE.is("no name of the face: " + m, hidden && face.contains(m.getName()), false);
        }
        fields(MiddleScale.class);
    }

    private static void methods(Class<?> c, TreeSet<String> face) {
        for (Method m : c.getDeclaredMethods()) {
            DUE.is("no name of the face: " + m, face.contains(m.getName()), false);
            DUE.is("seven parameters at most: " + m, m.getParameterCount() <= 7, true);
        }
    }

    private static void fields(Class<?> c) {
        long own = Arrays.stream(c.getDeclaredFields()).filter(f -> !Modifier.isStatic(f.getModifiers())).count();
        DUE.is("twenty fields at most: " + c, own <= 20, true);
        for (Field f : c.getDeclaredFields()) {
            boolean fine = !Modifier.isStatic(f.getModifiers()) || Modifier.isFinal(f.getModifiers());
            DUE.is("final if static: " + f, fine, true);
        }
    }

    private static void text() throws IOException {
        String all = Files.readString(Path.of("src/main/java/MiddleScale.java"));
        for (int i = 0; i < all.length(); i++) {
            if (all.charAt(i) > 126) {
                DUE.is("sign " + i, all.charAt(i), "a sign of 1 to 127");
            }
        }
        String code = all.replaceAll("(?s)/\\*.*?\\*/", "").replaceAll("//[^\n]*", "").replaceAll("\"[^\"]*\"", "\"\"");
        for (String never : new String[] {"\\bfinally\\b", "->", "::", "\\bsynchronized\\b", "\\bassert\\b", "Exact\\b",
            "\\bpackage\\b", "System\\.(?!arraycopy)", "\\bgetMessage\\b", "\"\" *\\+", "\\+ *\"\"",
            "catch *\\([^)]*\\b(ArrayIndexOutOfBounds|NullPointer|ClassCast|NegativeArraySize|ArrayStore|Runtime)?Exception\\b",
            "catch *\\([^)]*\\b(Throwable|Error)\\b", "Arrays\\.(?!fill|copyOf)", "static *\\{"}) {
            DUE.is("never " + never, Pattern.compile(never).matcher(code).find(), false);
        }
        for (String thrown : all(code, "throw new (\\w+)")) {
            DUE.is("throws " + thrown, thrown.matches("(IllegalState|IllegalArgument|IndexOutOfBounds|Arithmetic|"
                + "UnsupportedOperation|NoSuchElement|Runtime)Exception"), true);
        }
        methodsAreShort(code);
        for (String imported : all(code, "import ([\\w.]+);")) {
            boolean fine = imported.matches("java\\.util\\.(Arrays|ArrayList|List|Iterator|NoSuchElementException)");
            DUE.is("import " + imported, fine, true);
        }
    }

    private static List<String> all(String code, String pattern) {
        return Pattern.compile(pattern).matcher(code).results().map(r -> r.group(1)).toList();
    }

    /** From a method's head up to the brace that stands below its begin. */
    private static void methodsAreShort(String code) {
        Matcher m = Pattern.compile("(?ms)^( +)(?! )(?:[\\w<>\\[\\],]+ )*(\\w+)\\([^;{]*\\{$.*?^\\1\\}").matcher(code);
        int found = 0;
        while (m.find()) {
            found++;
            DUE.is("sixty lines at most: " + m.group(2), m.group().lines().count() <= 60, true);
        }
        DUE.is("methods were found", found > 49, true);
    }
}
