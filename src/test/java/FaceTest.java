import java.io.IOException;
import java.lang.reflect.Constructor;
import java.lang.reflect.Field;
import java.lang.reflect.Method;
import java.lang.reflect.Modifier;
import java.nio.file.Files;
import java.nio.file.Path;
import java.util.ArrayList;
import java.util.Arrays;
import java.util.HashSet;
import java.util.List;
import java.util.Set;
import java.util.TreeSet;
import java.util.regex.Pattern;

/** The document's face and no more, and what can be seen of LANGUAGE.md without reading the class. */
public final class FaceTest {
    private static final String[] FACE = {
        "int put(long,long,int)", "int drop(long)", "int flush()", "int join(int)", "long find(long)",
        "int length(long)", "long after(long)", "boolean may(int,long)", "int table(int,int)",
        "int byteAt(int,int)", "int poke(int,int,int)", "int sum(int)", "int logged(int)",
        "int crash(int,int,int)", "int badAt()", "int check()", "int count(int)"};

    /** Words that the rules leave out, each as it would stand in the class. */
    private static final String[] NOT_THERE = {
        "\\bimport\\b", "\\bpackage\\b", "->", "::", "\\bfinally\\b", "\\btry\\b", "\\bcatch\\b", "\\bassert\\b",
        "\\bsynchronized\\b", "\\bSystem\\.(?!arraycopy\\b)", "\\w+Exact\\b", "@", "\\bThread\\b", "\\bNaN\\b"};

    public static void main(String[] args) throws IOException {
        members();
        namesInside();
        source();
        asTheDocumentWritesIt();
        Expect.equal("NONE", RunStore.NONE, -1);
        Expect.end("FaceTest");
    }

    private static void members() {
        Class<?> c = RunStore.class;
        Expect.isTrue("public and final", Modifier.isPublic(c.getModifiers()) && Modifier.isFinal(c.getModifiers()));
        Set<String> methods = new TreeSet<>();
        for (Method m : c.getDeclaredMethods()) {
            if (!Modifier.isPrivate(m.getModifiers())) {
                Expect.isTrue(m + " is public, of an object", m.getModifiers() == Modifier.PUBLIC);
                methods.add(signature(m));
            }
        }
        Expect.same("methods", methods.toString(), new TreeSet<>(Arrays.asList(FACE)).toString());
        for (Field f : c.getDeclaredFields()) {
            boolean hidden = Modifier.isPrivate(f.getModifiers());
            Expect.isTrue(f + " is hidden, or NONE", hidden != f.getName().equals("NONE"));
            boolean isStatic = Modifier.isStatic(f.getModifiers());
            Expect.isTrue(f + " is final, when static", !isStatic || Modifier.isFinal(f.getModifiers()));
        }
        Constructor<?>[] made = c.getDeclaredConstructors();
        Expect.equal("constructors", made.length, 1);
        Expect.isTrue("RunStore(int)", made[0].toString().equals("public RunStore(int)"));
        for (Class<?> inside : c.getDeclaredClasses()) {
            boolean shown = Modifier.isPublic(inside.getModifiers()) || Modifier.isProtected(inside.getModifiers());
            Expect.isTrue(inside + " is static, and not public", Modifier.isStatic(inside.getModifiers()) && !shown);
        }
    }

    private static String signature(Method m) {
        List<String> parameters = new ArrayList<>();
        for (Class<?> p : m.getParameterTypes()) {
            parameters.add(p.getName());
        }
        return m.getReturnType().getName() + " " + m.getName() + "(" + String.join(",", parameters) + ")";
    }

    private static void namesInside() {
        Set<String> face = new HashSet<>();
        for (Method m : RunStore.class.getMethods()) {
            if (m.getDeclaringClass() == RunStore.class) {
                face.add(m.getName());
            }
        }
        List<Class<?>> all = new ArrayList<>(Arrays.asList(RunStore.class.getDeclaredClasses()));
        Expect.isTrue("at most twelve classes", all.size() < 12);
        all.add(RunStore.class);
        for (Class<?> c : all) {
            for (Method m : c.getDeclaredMethods()) {
                boolean ofFace = c == RunStore.class && Modifier.isPublic(m.getModifiers());
                Expect.isTrue(m + " has a name of its own", ofFace || !face.contains(m.getName()));
                Expect.isTrue(m + " has at most seven parameters", m.getParameterCount() <= 7);
            }
        }
    }

    private static void source() throws IOException {
        String text = Files.readString(Path.of("src/main/java/RunStore.java"));
        String code = text.replaceAll("(?s)/\\*.*?\\*/", "").replaceAll("//[^\n]*", "").replaceAll("\"[^\"\n]*\"", "\"\"");
        for (String word : NOT_THERE) {
            Expect.isTrue("no " + word + " in the class", !Pattern.compile(word).matcher(code).find());
        }
        Expect.isTrue("characters 0 to 255", text.chars().allMatch(c -> c < 256));
    }

    /** Each line of the document's face stands in the class, with its parameters and exceptions. */
    private static void asTheDocumentWritesIt() throws IOException {
        String text = Files.readString(Path.of("src/main/java/RunStore.java")).replaceAll("\\s+", " ");
        List<String> document = Files.readAllLines(Path.of("../shared/DOC.md"));
        int from = document.indexOf("```java");
        Expect.isTrue("the document has a face", from >= 0);
        int found = 0;
        for (int i = from + 1; i < document.size() && !document.get(i).equals("```"); i++) {
            String line = document.get(i).trim();
            if (line.startsWith("public ")) {
                String due = line.endsWith(";") && !line.contains("=") ? line.replace(";", " {") : line;
                Expect.isTrue(line + " stands in the class", text.contains(due));
                found++;
            }
        }
        Expect.equal("the class, a constant, a constructor and the methods", found, 3 + FACE.length);
    }
}
