import java.io.IOException;
import java.lang.reflect.Method;
import java.lang.reflect.Modifier;
import java.nio.file.DirectoryStream;
import java.nio.file.Files;
import java.nio.file.Path;
import java.util.ArrayList;
import java.util.List;

/** What README.md tells: each call of its example with its answer, each call of the face, each test. */
public final class ReadmeTest {
    private interface Answer {
        long get();
    }

    private static List<String> lines;
    private static List<String> example;
    private static int at;

    public static void main(String[] args) throws IOException {
        lines = Files.readAllLines(Path.of("README.md"));
        example = linesOfExample();
        exampleAnswers();
        callsAreTold();
        testsAreTold();
        Expect.end("ReadmeTest");
    }

    private static List<String> linesOfExample() {
        List<String> found = new ArrayList<>();
        int from = lines.indexOf("```java");
        Expect.isTrue("there is an example", from >= 0);
        for (int i = from + 1; i < lines.size() && !lines.get(i).equals("```"); i++) {
            found.add(lines.get(i));
        }
        return found;
    }

    /** The next line of the example has this call, and tells what the call answers. */
    private static void line(String call, Answer answer) {
        String written = at < example.size() ? example.get(at) : "";
        at++;
        String got;
        try {
            got = Long.toString(answer.get());
        } catch (IllegalStateException e) {
            got = "throws IllegalStateException";
        }
        int comment = written.indexOf("//");
        String told = comment < 0 ? "nothing" : written.substring(comment + 2).split(":")[0].trim();
        Expect.same("line " + at + " of the example", comment < 0 ? written : written.substring(0, comment).trim(), call);
        Expect.same("what " + call + " answers", told, got);
    }

    private static void exampleAnswers() {
        Expect.isTrue("a store of 24 blocks", example.get(0).startsWith("RunStore store = new RunStore(20);"));
        at = 1;
        RunStore store = new RunStore(20);
        Expect.equal("blocks", store.count(0), 24);
        line("store.put(5, 258, 2);", () -> store.put(5, 258, 2));
        line("store.drop(9);", () -> store.drop(9));
        line("store.crash(store.count(2) - 1, -1, 0);", () -> store.crash(store.count(2) - 1, -1, 0));
        line("store.drop(9);", () -> store.drop(9));
        line("store.flush();", () -> store.flush());
        line("store.join(0);", () -> store.join(0));
        line("store.find(5);", () -> store.find(5));
        line("store.length(9);", () -> store.length(9));
        line("store.after(0);", () -> store.after(0));
        line("store.table(0, 3);", () -> store.table(0, 3));
        line("store.poke(1, 0, 64);", () -> store.poke(1, 0, 64));
        line("store.check();", () -> store.check());
        line("store.find(5);", () -> store.find(5));
        line("store.badAt();", () -> store.badAt());
        line("store.poke(1, 0, 64);", () -> store.poke(1, 0, 64));
        line("store.find(5);", () -> store.find(5));
        line("store.badAt();", () -> store.badAt());
        Expect.equal("lines of the example", example.size(), at);
    }

    private static void callsAreTold() {
        for (Method m : RunStore.class.getDeclaredMethods()) {
            if (Modifier.isPublic(m.getModifiers())) {
                String row = rowOf("| `" + m.getReturnType().getName() + " " + m.getName() + "(");
                Expect.isTrue(m.getName() + " has a row", !row.isEmpty());
                Expect.same("what " + m.getName() + " throws", thrownBy(row), namesOf(m.getExceptionTypes()));
            }
        }
        Expect.isTrue("the constructor has a row", !rowOf("| `new RunStore(int blocks)`").isEmpty());
    }

    private static String thrownBy(String row) {
        List<String> told = new ArrayList<>();
        for (String word : row.split("[^A-Za-z]+")) {
            if (word.endsWith("Exception")) {
                told.add(word);
            }
        }
        return told.toString();
    }

    private static String namesOf(Class<?>[] exceptions) {
        List<String> names = new ArrayList<>();
        for (Class<?> e : exceptions) {
            names.add(e.getSimpleName());
        }
        return names.toString();
    }

    private static String rowOf(String beginning) {
        for (String line : lines) {
            if (line.startsWith(beginning)) {
                return line;
            }
        }
        return "";
    }

    private static void testsAreTold() throws IOException {
        try (DirectoryStream<Path> tests = Files.newDirectoryStream(Path.of("src/test/java"), "*Test.java")) {
            for (Path test : tests) {
                String name = test.getFileName().toString().replace(".java", "");
                Expect.isTrue(name + " has a row", !rowOf("| `" + name + "` |").isEmpty());
            }
        }
        Expect.isTrue("how to run the tests", lines.contains("bash .ci/run"));
    }
}
