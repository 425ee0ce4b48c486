import java.lang.reflect.InvocationTargetException;
import java.lang.reflect.Method;
import java.lang.reflect.Modifier;
import java.util.ArrayList;
import java.util.Comparator;
import java.util.List;
import java.util.Random;

/**
 * Runs of any calls with any arguments: none throws, the same ones answer the same, and what is
 * refused changes nothing but the findings.
 */
public final class AnyCallsTest {
    private static final int[] FAR = {Integer.MIN_VALUE, Integer.MAX_VALUE, -1, -2, 4096, 1 << 30, -(1 << 30), 10201};
    private static final Due due = new Due();

    public static void main(String[] args) throws Exception {
        List<Method> calls = new ArrayList<>();
        for (Method method : HiddenWords.class.getDeclaredMethods()) {
            if (Modifier.isPublic(method.getModifiers())) calls.add(method);
        }
        calls.sort(Comparator.comparing(Method::getName));
        int[] answered = new int[calls.size()];
        for (int seed = 0; seed < 1500; seed++) run(seed, calls, answered);
        for (int m = 0; m < calls.size(); m++) {
            due.holds(calls.get(m).getName() + " was not always refused", answered[m] > 5);
        }
        due.end();
    }

    private static void run(int seed, List<Method> calls, int[] answered) throws Exception {
        Random random = new Random(seed);
        HiddenWords x = start(seed);
        HiddenWords twin = start(seed);
        for (int call = 0; call < 150; call++) {
            int m = random.nextInt(calls.size());
            Method method = calls.get(m);
            Object[] arguments = arguments(method, random);
            long[] before = state(x);
            long got = answer(x, method, arguments);
            String what = "seed " + seed + ", " + method.getName() + java.util.Arrays.toString(arguments);
            due.is(what + ", again", answer(twin, method, arguments), got);
            if (!isTold(method)) {
                if (got < 0) unchanged(what, x, before, got);
                if (got < 0 && got > -9) continue;
            }
            answered[m]++;
        }
    }

    /** Things of each sort, so that most calls have something to work on. */
    private static HiddenWords start(int seed) {
        Random random = new Random(seed + 7777L);
        HiddenWords x = new HiddenWords();
        int n = 1 + random.nextInt(seed % 2 == 0 ? 8 : 40);
        x.row(0, n);
        x.row(1, n);
        for (int i = 0; i < n; i++) {
            x.lay(0, i, random.nextInt(256));
            x.lay(1, i, 1 + random.nextInt(9));
        }
        x.cover(0, 0, 0);
        x.grey(1, 0, 1 + random.nextInt(8), false);
        x.grey(2, 0, 1 + random.nextInt(8), true);
        for (int i = 0; i < n; i++) x.lay(0, i, 6 * i + random.nextInt(6));
        x.cover(3, 4, 0);
        for (int i = 0; i < n; i++) x.lay(0, i, 0);
        x.wordy(4, 0, 1);
        Due.text(x, 0, new String[] {"1", "101/011", " 1010101/0110011/0001111", "11/11"}[random.nextInt(4)]);
        x.code(0, 0);
        x.row(2, 8);
        for (int i = 0; i < 8; i++) x.lay(2, i, random.nextInt(2));
        x.parts(5, 2, 4, 3, 3);
        return x;
    }

    private static boolean isTold(Method method) {
        String name = method.getName();
        return name.equals("asked") || name.equals("upper") || name.equals("lower") || name.equals("digest");
    }

    private static Object[] arguments(Method method, Random random) {
        Class<?>[] types = method.getParameterTypes();
        Object[] all = new Object[types.length];
        for (int i = 0; i < all.length; i++) {
            int way = random.nextInt(20);
            if (types[i] == boolean.class) all[i] = random.nextBoolean();
            else if (way == 0) all[i] = FAR[random.nextInt(FAR.length)];
            else if (way == 1) all[i] = random.nextInt();
            else if (way == 2) all[i] = random.nextInt(400) - 60;
            else if (way < 6) all[i] = random.nextInt(44) - 2;
            else all[i] = random.nextInt(6);
        }
        return all;
    }

    private static long answer(HiddenWords x, Method method, Object[] arguments) throws Exception {
        try {
            return ((Number) method.invoke(x, arguments)).longValue();
        } catch (InvocationTargetException thrown) {
            due.holds(method.getName() + java.util.Arrays.toString(arguments) + " threw " + thrown.getCause(), false);
            return 0;
        }
    }

    private static long[] state(HiddenWords x) {
        long findings = 0;
        for (int f = 1; f <= 5; f++) findings += x.findings(f);
        return new long[] {x.digest(), x.asked(), x.upper(), x.lower(), findings, x.finding()};
    }

    private static void unchanged(String what, HiddenWords x, long[] before, long got) {
        long[] now = state(x);
        for (int i = 0; i < 4; i++) due.is(what + " refused, state " + i, now[i], before[i]);
        due.is(what + ", findings", now[4], got == HiddenWords.FINDING ? before[4] + 1 : before[4]);
        if (got != HiddenWords.FINDING) due.is(what + ", finding", now[5], before[5]);
    }
}
