import java.io.IOException;
import java.lang.reflect.Method;
import java.nio.file.Files;
import java.nio.file.Path;
import java.util.ArrayList;
import java.util.List;
import java.util.regex.Matcher;
import java.util.regex.Pattern;

/** README.md tells what is so: the answers in its examples are given, its calls and refusals are the document's. */
public final class ReadmeTest {
    private static final Check CHECK = new Check();
    private static final Pattern BLOCK = Pattern.compile("(?s)```java\n(.*?)```");
    private static final Pattern CALL = Pattern.compile("x\\.(\\w+)\\(([^)]*)\\);");
    private static final Pattern ANSWER = Pattern.compile("// (-?\\d+)(:.*)?$");
    private static final Pattern ROW = Pattern.compile("(?m)^\\| `(\\w+)\\(([^)]*)\\)` \\|[^|]*\\|([^|]*)\\|$");
    private static final Pattern FACE = Pattern.compile("public (?:int|long) (\\w+)\\(([^)]*)\\);");
    private static final Pattern REFUSAL = Pattern.compile("\\b(BAD|NOT|FULL|NULL|INDEX|CAST|STORE|SIZE)\\b");

    public static void main(String[] args) throws IOException, ReflectiveOperationException {
        String page = Files.readString(Path.of("README.md"));
        String document = Files.readString(Path.of("../shared/DOC.md"));
        examples(page);
        calls(page, document);
        refusals(page, document);
        CHECK.end("ReadmeTest");
    }

    private static void examples(String page) throws ReflectiveOperationException {
        int answers = 0;
        Matcher block = BLOCK.matcher(page);
        while (block.find()) {
            TwinKings x = null;
            for (String line : block.group(1).split("\n")) {
                if (line.equals("TwinKings x = new TwinKings();")) {
                    x = new TwinKings();
                } else {
                    example(x, line);
                    answers++;
                }
            }
        }
        CHECK.holds("there are examples", answers > 20);
    }

    private static void example(TwinKings x, String line) throws ReflectiveOperationException {
        Matcher told = ANSWER.matcher(line);
        boolean tells = told.find();
        CHECK.holds("the answer is told: " + line, tells);
        long got = 0;
        Matcher call = CALL.matcher(line);
        while (call.find()) {
            got = answer(x, call.group(1), call.group(2));
        }
        CHECK.due(line, got, tells ? Long.parseLong(told.group(1)) : 0);
    }

    private static long answer(TwinKings x, String name, String told) throws ReflectiveOperationException {
        String[] words = told.isEmpty() ? new String[0] : told.split(", ");
        Object[] numbers = new Object[words.length];
        Class<?>[] types = new Class<?>[words.length];
        for (int i = 0; i < words.length; i++) {
            numbers[i] = words[i].startsWith("'") ? (int) words[i].charAt(1) : Integer.parseInt(words[i]);
            types[i] = int.class;
        }
        Method method = TwinKings.class.getMethod(name, types);
        return ((Number) method.invoke(x, numbers)).longValue();
    }

    private static void calls(String page, String document) {
        List<String> face = new ArrayList<>();
        Matcher method = FACE.matcher(document);
        while (method.find()) {
            face.add(method.group(1) + "(" + method.group(2).replace("int ", "") + ")");
        }
        List<String> rows = new ArrayList<>();
        Matcher row = ROW.matcher(page);
        while (row.find()) {
            rows.add(row.group(1) + "(" + row.group(2) + ")");
        }
        CHECK.due("calls of the document", face.size(), 42);
        CHECK.holds("the calls are the document's, in its order: " + rows, rows.equals(face));
    }

    private static void refusals(String page, String document) {
        Matcher row = ROW.matcher(page);
        while (row.find()) {
            String told = String.join(", ", refusalsIn(promise(document, row.group(1))));
            CHECK.holds(row.group(1) + " is refused by: " + told, row.group(3).trim().equals(told));
        }
    }

    private static String promise(String document, String name) {
        Matcher promise = Pattern.compile("(?s)## Promise \\d+: " + name + "\n(.*?)\n## ").matcher(document);
        return promise.find() ? promise.group(1) : "";
    }

    private static List<String> refusalsIn(String promise) {
        List<String> words = new ArrayList<>();
        Matcher word = REFUSAL.matcher(promise);
        while (word.find()) {
            if (!words.contains(word.group(1))) {
                words.add(word.group(1));
            }
        }
        return words;
    }
}
