import java.io.IOException;
import java.lang.reflect.Field;
import java.lang.reflect.Method;
import java.lang.reflect.Modifier;
import java.nio.file.Files;
import java.nio.file.Path;
import java.util.Arrays;
import java.util.TreeSet;
import java.util.regex.Matcher;
import java.util.regex.Pattern;

/** The face is the document's and no more, and the program keeps to those rules of LANGUAGE.md that a look can tell. */
public final class FaceTest {
    private static final Check CHECK = new Check();
    private static final String[] FACE = {
        "int type(int)", "int wipe()", "int undo()", "int fault()", "int deed(int,int)", "int set(int,int)",
        "int sick(int,int)", "int leap(int)", "int edict(int,int)", "int does(int,int,int)", "int task(int,int)",
        "int back(int)", "int read(int)", "int rules(int)", "int allows(int,int)", "int allowed(int)", "int never()",
        "int alike()", "int crossing(int)", "int fined(int)", "int coins(int)", "int soonest(int,int,int)",
        "int cheapest(int,int,int,int)", "int finish(int,int)", "int plan(int,int)", "int words(int,int,int)",
        "int seen(int,int)", "int book(int,int,int)", "int forget(int)", "int when(int)", "int ask()", "int forged()",
        "long chance(int,int,int,int,int)", "int year(int,int,int)", "int sheet(int,int,int)", "int lose(int)",
        "int put(int,int,int,int)", "int get(int,int,int)", "int copy(int,int,int,int,int)", "int write(int)",
        "int count(int)", "long digest()"};

    public static void main(String[] args) throws IOException {
        constants();
        methods();
        fields();
        insideNames();
        wordsOfTheSource();
        library();
        CHECK.end("FaceTest");
    }

    private static void constants() {
        CHECK.due("NONE", TwinKings.NONE, -1);
        CHECK.due("BAD", TwinKings.BAD, -2);
        CHECK.due("NOT", TwinKings.NOT, -3);
        CHECK.due("FULL", TwinKings.FULL, -4);
        CHECK.holds("the class is final", Modifier.isFinal(TwinKings.class.getModifiers()));
        CHECK.due("constructors", TwinKings.class.getConstructors().length, 1);
        CHECK.due("all constructors", TwinKings.class.getDeclaredConstructors().length, 1);
    }

    private static String told(Method method) {
        StringBuilder line = new StringBuilder(method.getReturnType().getName());
        line.append(' ').append(method.getName()).append('(');
        for (Class<?> type : method.getParameterTypes()) {
            line.append(line.charAt(line.length() - 1) == '(' ? "" : ",").append(type.getName());
        }
        return line.append(')').toString();
    }

    private static void methods() {
        TreeSet<String> open = new TreeSet<>();
        for (Method method : TwinKings.class.getDeclaredMethods()) {
            if (!Modifier.isPrivate(method.getModifiers()) && !method.isSynthetic()) {
                open.add(told(method));
                CHECK.holds(method.getName() + " is public", Modifier.isPublic(method.getModifiers()));
                CHECK.holds(method.getName() + " is of the object", !Modifier.isStatic(method.getModifiers()));
            }
        }
        CHECK.holds("the methods are the document's: " + open, open.equals(new TreeSet<>(Arrays.asList(FACE))));
    }

    private static void fields() {
        int open = 0;
        for (Field field : TwinKings.class.getDeclaredFields()) {
            open += Modifier.isPrivate(field.getModifiers()) ? 0 : 1;
            boolean constant = !Modifier.isStatic(field.getModifiers()) || Modifier.isFinal(field.getModifiers());
            CHECK.holds(field.getName() + " is no static state", constant);
        }
        CHECK.due("constants of the face", open, 4);
    }

    private static void insideNames() {
        TreeSet<String> open = new TreeSet<>();
        for (String method : FACE) {
            open.add(method.substring(method.indexOf(' ') + 1, method.indexOf('(')));
        }
        for (Class<?> inside : TwinKings.class.getDeclaredClasses()) {
            CHECK.holds(inside.getName() + " is static", Modifier.isStatic(inside.getModifiers()));
            for (Method method : inside.getDeclaredMethods()) {
                CHECK.holds(method + " has a name of its own", !open.contains(method.getName()));
                CHECK.holds(method + " takes at most seven", method.getParameterCount() <= 7);
            }
        }
        for (Method method : TwinKings.class.getDeclaredMethods()) {
            boolean hidden = Modifier.isPrivate(method.getModifiers());
            CHECK.holds(method + " has a name of its own", !hidden || !open.contains(method.getName()));
        }
    }

    private static String source() throws IOException {
        return Files.readString(Path.of("src/main/java/TwinKings.java"));
    }

    private static String code() throws IOException {
        return source().replaceAll("(?s)/\\*.*?\\*/", " ").replaceAll("//[^\n]*", " ");
    }

    private static void wordsOfTheSource() throws IOException {
        String source = source();
        String code = code();
        String[] ruledOut = {"throw", "throws", "try", "catch", "synchronized", "assert", "import", "package",
            "instanceof", "Exact", "Object", "Random", "Thread", "nanoTime", "currentTimeMillis"};
        for (String word : ruledOut) {
            CHECK.holds("no '" + word + "' in the program", !code.matches("(?s).*\\b\\w*" + word + "\\b.*"));
        }
        CHECK.holds("no lambda, no method reference", !code.contains("->") && !code.contains("::"));
        CHECK.holds("signs are 1 to 127", source.chars().allMatch(sign -> sign < 128));
    }

    /** Rule 4: functions of the library are listed there, its constants (as the least int) are not. */
    private static void library() throws IOException {
        TreeSet<String> used = new TreeSet<>();
        Matcher name = Pattern.compile("\\b[A-Z]\\w*[a-z]\\w*\\.\\w+").matcher(code());
        while (name.find()) {
            used.add(name.group());
        }
        used.removeAll(Arrays.asList("Math.max", "Math.min", "Integer.bitCount", "Long.bitCount", "System.arraycopy"));
        CHECK.holds("nothing else of the library is used: " + used, used.isEmpty());
    }
}
