import java.lang.reflect.Method;
import java.util.ArrayList;
import java.util.Comparator;
import java.util.List;
import java.util.Random;

/**
 * Promises 1 to 43: runs of calls drawn by a fixed seed, each answer held against the model's.
 * The calls are taken from the face, so none can be left out.
 */
public final class RandomRunsTest {
    private static final int RUNS = 260;
    private static final int TASK_RUNS = 120;
    private static final Check CHECK = new Check();
    private static final int[] finishes = new int[2];

    public static void main(String[] args) throws ReflectiveOperationException {
        List<Method> face = new ArrayList<>();
        for (Method method : TwinKings.class.getDeclaredMethods()) {
            if (java.lang.reflect.Modifier.isPublic(method.getModifiers())) {
                face.add(method);
            }
        }
        face.sort(Comparator.comparing(Method::getName));
        for (int seed = 0; seed < RUNS; seed++) {
            run(seed, face);
        }
        for (int seed = 0; seed < TASK_RUNS; seed++) {
            runOfTasks(seed);
        }
        CHECK.due("25: enough rows of tasks had a finish, enough had none", mixedEnough() ? 1 : 0, 1);
        CHECK.end("RandomRunsTest");
    }

    private static void run(int seed, List<Method> face) throws ReflectiveOperationException {
        Random random = new Random(seed);
        TwinKings kings = new TwinKings();
        Model model = new Model();
        if (seed % 8 != 0) {
            typeDeeds(random, kings, model);
        }
        // A third of the runs asks more than it tells, so that a state lasts for a while.
        boolean keepsText = seed % 3 != 0;
        for (int k = 0; k < 400; k++) {
            Method method = face.get(random.nextInt(face.size()));
            String name = method.getName();
            boolean changesText = name.equals("type") || name.equals("wipe") || name.equals("undo");
            boolean dear = name.equals("digest") || name.equals("plan") || name.equals("words");
            if (changesText && keepsText || dear && random.nextInt(6) != 0) {
                continue;
            }
            call(seed, k, method, arguments(random, method), kings, model);
        }
        CHECK.due("run " + seed + ": digest()", kings.digest(), model.digest());
    }

    /**
     * Calls drawn alone seldom come to tasks that can be finished: here most of them are short and of deeds that
     * there are, and now and then one is of a deed that there is not or begins too late.
     */
    private static void runOfTasks(int seed) {
        Random random = new Random(7000 + seed);
        TwinKings kings = new TwinKings();
        Model model = new Model();
        typeDeeds(random, kings, model);
        CHECK.due("set", kings.set(0, seed % 3), model.set(0, seed % 3));
        int number = Math.max(1, kings.count(0));
        for (int k = random.nextInt(10); k > 0; k--) {
            int day = random.nextInt(12);
            int deed = random.nextInt(number);
            CHECK.due("edict", kings.edict(day, deed), model.edict(day, deed));
        }
        for (int k = random.nextInt(7); k > 0; k--) {
            int king = random.nextInt(2);
            int day = random.nextInt(40);
            CHECK.due("sick", kings.sick(king, day), model.sick(king, day));
        }
        for (int k = 1 + random.nextInt(6); k > 0; k--) {
            int deed = random.nextInt(30) == 0 ? number % 8 : random.nextInt(number);
            int days = random.nextInt(3) == 0 ? 1 + random.nextInt(5) : 1;
            CHECK.due("task", kings.task(deed, days), model.task(deed, days));
        }
        for (int k = 0; k < 5; k++) {
            askForTasks("tasks " + seed, k == 0 ? 0 : random.nextInt(40), k < 2, kings, model);
        }
    }

    private static void askForTasks(String run, int day, boolean asksPlan, TwinKings kings, Model model) {
        finishes[model.finish(day, Model.NONE) == Model.NONE ? 0 : 1]++;
        for (int i = Model.NONE; i < 6; i++) {
            String asked = "(" + day + ", " + i + ")";
            CHECK.due(run + ": finish" + asked, kings.finish(day, i), model.finish(day, i));
            if (asksPlan) {
                CHECK.due(run + ": plan" + asked, kings.plan(day, i), model.plan(day, i));
            }
        }
    }

    /** So that a change of what is drawn cannot quietly leave one side untried. */
    private static boolean mixedEnough() {
        return finishes[0] >= TASK_RUNS && finishes[1] >= TASK_RUNS;
    }

    private static void typeDeeds(Random random, TwinKings kings, Model model) {
        int number = random.nextInt(9);
        StringBuilder text = new StringBuilder();
        for (int k = 0; k < number; k++) {
            text.append(k == 0 ? "" : ";").append(random.nextInt(10)).append(random.nextBoolean() ? 'a' : 'f');
        }
        for (int i = 0; i < text.length(); i++) {
            CHECK.due("type", kings.type(text.charAt(i)), model.type(text.charAt(i)));
        }
    }

    private static void call(int seed, int k, Method method, Object[] arguments, TwinKings kings, Model model)
            throws ReflectiveOperationException {
        Method twin = Model.class.getDeclaredMethod(method.getName(), method.getParameterTypes());
        long got = ((Number) method.invoke(kings, arguments)).longValue();
        long want = ((Number) twin.invoke(model, arguments)).longValue();
        String call = "run " + seed + ", call " + k + ": " + method.getName() + java.util.Arrays.toString(arguments);
        CHECK.due(call, got, want);
    }

    private static Object[] arguments(Random random, Method method) {
        Object[] arguments = new Object[method.getParameterCount()];
        for (int i = 0; i < arguments.length; i++) {
            arguments[i] = number(random, method.getName(), i);
        }
        return arguments;
    }

    /** Mostly a number that the call takes there, now and then one at its edge or far off. */
    private static int number(Random random, String name, int place) {
        int luck = random.nextInt(60);
        if (name.equals("put") && place == 3 && luck < 10) {
            return random.nextInt();
        }
        if (luck == 0) {
            int[] far = {Integer.MIN_VALUE, Integer.MAX_VALUE, -2, -1, 64, 1 << 16};
            return far[random.nextInt(far.length)];
        }
        int[] range = range(name, place);
        int width = range[1] - range[0] + 1;
        return luck == 1 ? range[0] - 1 : luck == 2 ? range[1] + 1 : range[0] + random.nextInt(width);
    }

    /** The least and the greatest number that a call takes at a place, as the document tells them. */
    private static int[] range(String name, int place) {
        int[] day = {0, 39};
        int[] deed = {0, 7};
        int[] sheet = {0, 3};
        int[] small = {0, 1};
        switch (name) {
            case "type": return new int[] {'a' - 3, 'f' + 1};
            case "deed": return place == 0 ? deed : new int[] {0, 2};
            case "set": return place == 0 ? small : new int[] {0, 2};
            case "sick": return place == 0 ? small : day;
            case "leap": case "rules": case "allowed": return day;
            case "edict": return place == 0 ? day : deed;
            case "does": return place == 0 ? day : place == 1 ? deed : new int[] {1, 5};
            case "task": return place == 0 ? deed : new int[] {1, 5};
            case "back": return new int[] {0, 4};
            case "allows": return place == 0 ? day : small;
            case "crossing": return deed;
            case "fined": return new int[] {0, 11};
            case "coins": case "forget": return small;
            case "soonest": case "cheapest":
                return place == 0 ? deed : place == 1 ? new int[] {1, 9} : place == 2 ? day : small;
            case "finish": case "plan": return place == 0 ? new int[] {0, 24} : new int[] {-1, 5};
            case "words": return place == 0 ? day : place == 1 ? new int[] {1, 3} : small;
            case "seen": return place == 0 ? deed : small;
            case "book": return place == 0 ? day : place == 1 ? deed : small;
            case "when": return new int[] {-1, 39};
            case "chance":
                return place == 0 ? new int[] {0, 16} : place == 1 ? day : place == 2 ? deed
                        : place == 3 ? new int[] {1, 6} : small;
            case "year": return place == 0 ? new int[] {-99999, 99999} : place == 1 ? new int[] {1, 40} : small;
            case "sheet": return place == 0 ? sheet : place == 1 ? new int[] {0, 2} : new int[] {0, 60};
            case "put": case "get":
                return place == 0 ? sheet : place == 1 ? new int[] {0, 2} : new int[] {0, 41};
            case "copy": return place == 0 || place == 2 ? sheet : new int[] {0, 20};
            case "count": return new int[] {0, 8};
            default: return sheet;
        }
    }
}
