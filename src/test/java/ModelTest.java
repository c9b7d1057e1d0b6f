import java.lang.reflect.InvocationTargetException;
import java.lang.reflect.Method;
import java.util.Arrays;
import java.util.HashMap;
import java.util.Map;
import java.util.Random;

/** Runs of calls by a seeded chance: every answer of ReservoirMind against PlainModel's. Arguments: runs, seed. */
public final class ModelTest {
    /** A call, how often it comes, and the ranges of its arguments; the range is left now and then. */
    private static final String[] CALLS = {
        "put 4 0:3 0:13", "inflow 6 0:11 0:2 0:9", "part 5 0:2 0:2 0:9", "month 6 0:11 0:1 0:9",
        "demand 8 0:4 0:9 1:9 0:99 0:11 0:11", "renew 3 0:5 0:2 0:9", "drop 1 0:5", "read 2",
        "told 1 0:4", "monthOf 2 0:11 0:5", "partOf 2 0:2 0:3", "demandOf 2 0:5 0:6", "taken 1 0:5 0:4",
        "wanted 2 0:5 0:11", "served 4 0:5 0:11 0:25 0:1", "step 6 0:11 0:12 0:99 0:25 0:5",
        "best 4 0:12 0:12 0:2", "release 4 0:11 0:12 0:2", "would 4 0:11 0:12 0:2 0:20", "after 2 0:12 0:2 0:2",
        "way 2 0:2 1:8 0:7", "chance 2 0:2 1:8", "worth 4 0:2 0:11 0:12 0:2", "record 20 0:3 0:9",
        "replay 6 0:3 0:12 0:20 0:24 0:5", "replay 6 0:3 0:12 0:0 0:24 0:5", "sure 4 0:3 0:12 0:20 0:5 0:1",
        "sure 4 0:3 0:12 0:0 0:5 0:1", "learn 1 0:3", "see 3 -1:11 0:12 0:2 0:20", "fits 1 0:1", "plan 3 -1:3 0:12",
        "ends 4 0:12 0:2", "book 3 0:11 0:12 0:20", "looked 3", "judge 4 0:3 0:12 0:20 0:5 0:9", "image 1", "undo 1",
        "count 1 0:8", "tape 3 0:5 -1:4 0:60", "item 6 0:5 0:59 0:12", "peek 4 0:5 0:59", "shift 4 0:5 0:59 0:5 0:59 0:30"};
    private static final String SIGNS = "dqpefc.;0123456789x";

    private final Random chance;
    private final ReservoirMind mind = new ReservoirMind();
    private final PlainModel model = new PlainModel();
    private final StringBuilder told = new StringBuilder();
    private int calls = 0;
    private boolean isRight = true;

    private ModelTest(long seed) {
        chance = new Random(seed);
    }

    private static final Map<String, Method[]> METHODS = new HashMap<>();

    public static void main(String[] args) throws ReflectiveOperationException {
        int runs = args.length > 0 ? Integer.parseInt(args[0]) : 120;
        long seed = args.length > 1 ? Long.parseLong(args[1]) : 1;
        for (Method m : ReservoirMind.class.getDeclaredMethods()) {
            if (java.lang.reflect.Modifier.isPublic(m.getModifiers())) {
                METHODS.put(m.getName(), new Method[] {m, PlainModel.class.getMethod(m.getName(), m.getParameterTypes())});
            }
        }
        for (int run = 0; run < runs; run++) {
            ModelTest test = new ModelTest(seed * 1_000_003L + run);
            Due.holds("run " + run + " of seed " + seed + " goes as the model", test.go());
        }
        Due.end("ModelTest");
    }

    private boolean go() throws ReflectiveOperationException {
        int all = 0;
        for (String call : CALLS) {
            all += Integer.parseInt(call.split(" ")[1]);
        }
        while (isRight && calls < 500) {
            int pick = chance.nextInt(all);
            int k = 0;
            for (; pick >= Integer.parseInt(CALLS[k].split(" ")[1]); k++) {
                pick -= Integer.parseInt(CALLS[k].split(" ")[1]);
            }
            one(CALLS[k].split(" "));
        }
        return isRight;
    }

    private void one(String[] words) throws ReflectiveOperationException {
        if (words[0].equals("read")) {
            feedSome();
        }
        if (words[0].equals("see") && chance.nextInt(3) > 0) {
            seeAsBest();
            return;
        }
        if (words[0].equals("book") && chance.nextInt(3) > 0) {
            bookAsBest();
            return;
        }
        if (words[0].equals("judge") && chance.nextInt(2) > 0) {
            tellStores();
            return;
        }
        Object[] args = new Object[words.length - 2];
        Class<?>[] types = METHODS.get(words[0])[0].getParameterTypes();
        for (int k = 0; k < args.length; k++) {
            String[] range = words[k + 2].split(":");
            int v = number(Integer.parseInt(range[0]), Integer.parseInt(range[1]));
            boolean isWide = types[k] == long.class && chance.nextBoolean();
            args[k] = types[k] == long.class ? (Object) (isWide ? chance.nextLong() : (long) v) : (Object) v;
        }
        call(words[0], args);
    }

    private int number(int least, int most) {
        switch (chance.nextInt(60)) {
            case 0:
                return least - 1;
            case 1:
                return most + 1;
            case 2:
                return new int[] {Integer.MIN_VALUE, Integer.MAX_VALUE, -5, 1000}[chance.nextInt(4)];
            default:
                return least + chance.nextInt(most - least + 1);
        }
    }

    private void feedSome() throws ReflectiveOperationException {
        StringBuilder text = new StringBuilder();
        int clauses = 1 + chance.nextInt(chance.nextInt(4) == 0 ? 14 : 4);
        for (int k = 0; k < clauses; k++) {
            text.append(k == 0 ? "" : ";").append(clause());
        }
        if (chance.nextInt(3) == 0) {
            int at = chance.nextInt(text.length());
            text.setCharAt(at, SIGNS.charAt(chance.nextInt(SIGNS.length())));
        }
        if (chance.nextInt(4) == 0) {
            text.setLength(chance.nextInt(text.length() + 1));
        }
        for (int k = 0; k < text.length() && k < 102; k++) {
            call("feed", (int) text.charAt(k));
        }
    }

    private String clause() {
        int month = chance.nextInt(13);
        switch (chance.nextInt(6)) {
            case 0:
                return "d" + chance.nextInt(6) + digit() + digit() + chance.nextInt(100) + "." + month + "."
                    + chance.nextInt(13);
            case 1:
                return "q" + month + "." + digit() + digit() + digit();
            case 2:
                return "p" + chance.nextInt(4) + chance.nextInt(3) + chance.nextInt(3) + chance.nextInt(3);
            case 3:
                return "e" + month + "." + digit();
            case 4:
                return "f" + month + "." + digit();
            default:
                return "c" + chance.nextInt(15);
        }
    }

    private int digit() {
        return chance.nextInt(10);
    }

    private void seeAsBest() throws ReflectiveOperationException {
        int month = chance.nextInt(12);
        int store = chance.nextInt(13);
        int state = chance.nextInt(3);
        call("see", month, store, state, Math.max(0, mind.release(month, store, state)));
        calls++;
    }

    private void bookAsBest() throws ReflectiveOperationException {
        int month = chance.nextInt(12);
        int store = chance.nextInt(13);
        call("book", month, store, Math.max(0, mind.release(month, store, 1)));
        calls++;
    }

    /** A tape that tells the stores of a replay, sometimes but for one of them or for the last ones. */
    private void tellStores() throws ReflectiveOperationException {
        int record = chance.nextInt(4);
        int store = chance.nextInt(mind.told(0) + 1);
        int by = chance.nextBoolean() ? 0 : chance.nextInt(21);
        int n = mind.count(5 + record);
        calls += 2;
        call("tape", 0, 3, Math.max(0, n + 2 - chance.nextInt(2) * chance.nextInt(6)));
        for (int k = 0; k <= n; k++) {
            long v = mind.replay(record, store, by, k, 0);
            calls++;
            call("item", 0, k + 1, chance.nextInt(60) == 0 ? v + 1 : v);
        }
        call("judge", record, store, by, 0, 1);
    }

    private void call(String name, Object... args) throws ReflectiveOperationException {
        calls++;
        if (calls > 512) {
            return;
        }
        told.append(name).append(Arrays.toString(args)).append('\n');
        Object got;
        try {
            got = METHODS.get(name)[0].invoke(mind, args);
        } catch (InvocationTargetException e) {
            got = e.getCause();
        }
        Object due = METHODS.get(name)[1].invoke(model, args);
        if (!due.equals(got) && isRight) {
            isRight = false;
            System.out.println(told + " answered " + got + ", due is " + due);
        }
    }
}
