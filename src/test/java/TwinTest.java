import java.lang.reflect.InvocationTargetException;
import java.lang.reflect.Method;
import java.util.ArrayList;
import java.util.Arrays;
import java.util.HashMap;
import java.util.List;
import java.util.Map;
import java.util.Random;

/**
 * The class beside PlainWords, a slow twin of it: long runs of calls, most of them near the limits
 * that the document names, answer alike, and all that can be asked is alike behind each of them.
 */
public final class TwinTest {
    private static final int RUNS = 2500, MOST_CALLS = 512;
    private static final String[] TOLD = {"asked", "upper", "lower", "finding", "digest"};
    private static final String[] TEXTS = {
        "1", "0", "11", "101/011", "1010101/0110011/0001111", "1/0/1/0/1/0", " 11/01 ", "100/010/001", "111111111111",
        "110101/011011", "10000/01000/00100/00010/00001", "000/111", "1/0/1/0/1/0/1", "10/1", "10/101", "1//1", "", "   ",
        "1/ 1", "1 1", "111111111111/000000000000/101010101010/010101010101", "1111111111111", " 1/1 /", "0110/1001/1x"};

    private static final Due due = new Due();
    private static final Map<String, Integer> answered = new HashMap<>();
    private static final Map<String, Integer> refused = new HashMap<>();

    private final Random random;
    private final int seed;
    private final HiddenWords x = new HiddenWords();
    private final PlainWords twin = new PlainWords();
    private int calls = 0;
    /** Behind the first answer that is not alike the rest of a run tells nothing more. */
    private boolean parted = false;
    /** The COVER, the CODE and the ROW of the next HIDING. */
    private int hidingIn = 0;
    private int hidingBy = 0;
    private int hidingRow = 0;

    private TwinTest(int seed) {
        this.seed = seed;
        random = new Random(seed);
    }

    public static void main(String[] args) {
        List<String> names = new ArrayList<>();
        for (Method method : PlainWords.class.getDeclaredMethods()) {
            if (java.lang.reflect.Modifier.isPublic(method.getModifiers())) names.add(method.getName());
        }
        names.sort(null);
        due.is("calls of the face", names.size(), 50);
        for (int seed = 0; seed < RUNS; seed++) {
            TwinTest run = new TwinTest(seed);
            run.start();
            // a step makes some 170 calls at most
            while (run.calls < MOST_CALLS - 200) run.step(names.get(run.random.nextInt(names.size())));
            due.holds("an object's 512 calls are over, seed " + seed, run.calls <= MOST_CALLS);
            run.toTheLastCall();
        }
        for (String name : names) {
            due.holds(name + " was answered often", answered.getOrDefault(name, 0) > 20);
            boolean never = Arrays.asList(TOLD).contains(name);
            due.holds(name + " was refused at times", never || refused.getOrDefault(name, 0) > 5);
        }
        due.end();
    }

    // ---- calls of both

    private void both(String name, Object... arguments) {
        calls++;
        if (parted) return;
        long want = answer(twin, name, arguments);
        long got = answer(x, name, arguments);
        String what = "seed " + seed + ", call " + calls + ", " + name + Arrays.toString(arguments);
        due.is(what, got, want);
        parted = got != want;
        if (want < 0 && want >= -6 && !name.equals("asked") && !name.equals("digest")) refused.merge(name, 1, Integer::sum);
        else answered.merge(name, 1, Integer::sum);
    }

    private void step(String name) {
        if (random.nextInt(3) == 0) fillSomething();
        prepare(name);
        both(name, arguments(name));
        for (String told : TOLD) both(told);
        both("findings", 1 + random.nextInt(5));
    }

    /** The 512th call still answers as the first one does. */
    private void toTheLastCall() {
        while (calls < MOST_CALLS - 1) both("lay", one(5), near(0, 8), random.nextInt());
        if (calls < MOST_CALLS) both("digest");
    }

    private static final Map<String, Method> METHODS = new HashMap<>();

    private static long answer(Object on, String name, Object... arguments) {
        String key = on.getClass().getName() + "." + name;
        Method method = METHODS.get(key);
        try {
            if (method == null) {
                for (Method any : on.getClass().getMethods()) {
                    if (any.getName().equals(name) && any.getParameterCount() == arguments.length) method = any;
                }
                METHODS.put(key, method);
            }
            return ((Number) method.invoke(on, arguments)).longValue();
        } catch (InvocationTargetException thrown) {
            if (thrown.getCause() instanceof PlainWords.Refused) return ((PlainWords.Refused) thrown.getCause()).answer;
            throw new IllegalStateException(key + Arrays.toString(arguments), thrown.getCause());
        } catch (IllegalAccessException never) {
            throw new IllegalStateException(never);
        }
    }

    // ---- numbers

    /** Mostly a number of least .. most; at times an end, a number beside it, or one far off. */
    private int near(int least, int most) {
        switch (random.nextInt(24)) {
            case 0: return least - 1;
            case 1: return most + 1;
            case 2: case 3: return least;
            case 4: case 5: return most;
            case 6: return random.nextInt(8) == 0 ? Integer.MIN_VALUE : least;
            case 7: return random.nextInt(8) == 0 ? Integer.MAX_VALUE : most;
            default: return least + random.nextInt(most - least + 1);
        }
    }

    /** The number of a ROW, a COVER, a TEXT, a CODE: there are few, so that most are there. */
    private int one(int most) {
        int[] none = {-1, most + 1, Integer.MIN_VALUE, Integer.MAX_VALUE};
        return random.nextInt(40) == 0 ? none[random.nextInt(4)] : random.nextInt(most + 1);
    }

    private int key() {
        return random.nextInt(4) == 0 ? near(-1, 3) : random.nextInt();
    }

    private int size() {
        int[] often = {1, 2, 3, 8, 10, 11, 12, 39, 40};
        return random.nextInt(4) == 0 ? often[random.nextInt(often.length)] : 1 + random.nextInt(12);
    }

    // ---- things to work on

    private void fill(int r, int[] values) {
        both("row", r, values.length);
        for (int i = 0; i < values.length ; i++) both("lay", r, i, values[i]);
    }

    private int[] numbers(int n, int least, int most) {
        int[] all = new int[n];
        boolean wrong = random.nextInt(10) == 0;
        for (int i = 0; i < n; i++) all[i] = least + random.nextInt(most - least + 1);
        if (random.nextInt(3) == 0 && n > 0) all[random.nextInt(n)] = random.nextBoolean() ? least : most;
        if (wrong && n > 0) all[random.nextInt(n)] = random.nextBoolean() ? least - 1 : most + 1;
        return all;
    }

    private int[] unlike(int n) {
        List<Integer> all = new ArrayList<>();
        for (int i = 0; i < 256; i++) all.add(i);
        java.util.Collections.shuffle(all, random);
        return all.subList(0, n).stream().mapToInt(i -> i).toArray();
    }

    private void start() {
        for (int c = 0; c < 6; c++) {
            if (random.nextInt(3) > 0) coverOfKind(c, random.nextInt(5));
        }
        someCode(random.nextInt(4));
    }

    private void coverOfKind(int c, int kind) {
        int n = size();
        int most = random.nextBoolean() ? 255 : 1 + random.nextInt(20);
        if (kind == 3) {
            int[] choices = new int[n];
            int[] dots = new int[n];
            for (int i = 0; i < n; i++) {
                choices[i] = 1 + random.nextInt(9);
                dots[i] = random.nextInt(4) == 0 ? choices[i] - 1 : random.nextInt(choices[i]);
            }
            if (random.nextInt(12) == 0) dots[n - 1] = random.nextBoolean() ? choices[n - 1] : -1;
            if (random.nextInt(12) == 0) choices[0] = random.nextBoolean() ? 0 : 10;
            fill(4, dots);
            fill(5, choices);
            both("wordy", c, 4, 5);
        } else if (kind == 4) {
            fill(4, unlike(random.nextBoolean() ? Math.min(n, 10) : n));
            both("cover", c, 4, 4);
        } else {
            fill(4, numbers(n, 0, most));
            if (kind == 0) both("cover", c, 0, 4);
            else both("grey", c, 4, random.nextInt(3) == 0 ? near(1, 40) : 1 + random.nextInt(8), kind == 2);
        }
        if (random.nextInt(3) == 0) both("wet", c, random.nextInt() & random.nextInt() & Integer.MAX_VALUE);
    }

    private void someText(int t) {
        String signs = TEXTS[random.nextInt(TEXTS.length)];
        StringBuilder any = new StringBuilder(signs);
        if (random.nextInt(4) == 0 && any.length() > 0) any.setCharAt(random.nextInt(any.length()), "01/ 2".charAt(random.nextInt(5)));
        if (random.nextInt(6) == 0) any.append(' ');
        both("text", t, any.length());
        for (int i = 0; i < any.length() ; i++) both("put", t, i, any.charAt(i) + 256 * random.nextInt(3));
        both("fault", t);
    }

    private void someCode(int t) {
        someText(t);
        both("code", random.nextInt(4), t);
    }

    private void fillSomething() {
        int kind = random.nextInt(6);
        if (kind < 5) coverOfKind(random.nextInt(6), kind);
        else someCode(random.nextInt(4));
    }

    /** Puts into ROWS 0 to 2 what a call looks for there. */
    private void prepare(String name) {
        hidingIn = one(5);
        hidingBy = one(3);
        hidingRow = one(5);
        if (random.nextInt(5) == 0) return;
        if (name.equals("hide") || name.equals("price")) prepareHiding();
        for (int r = 0; r < 3; r++) {
            switch (name) {
                case "join": fill(r, somePairs()); break;
                case "makes": case "guilty": case "apart": fill(r, numbers(near(1, 10) & 15, 0, r == 0 ? 15 : 4095)); break;
                case "howFar": case "bestTest": fill(r, someModel()); break;
                case "mean": if (r == 0) both("row", 0, near(0, 3) & 3); break;
                default: return;
            }
        }
    }

    /** Bits for some BLOCKS of a COVER and a CODE that are there, if there are such two. */
    private void prepareHiding() {
        int from = random.nextInt(24);
        int lines = 0;
        int blocks = 0;
        for (int i = 0; i < 24 && blocks == 0; i++) {
            hidingIn = (from + i) % 24 / 4;
            hidingBy = (from + i) % 4;
            lines = twin.linesOf(hidingBy);
            blocks = twin.blocksOf(hidingIn, hidingBy);
        }
        int many = Math.min(lines * (random.nextInt(blocks + 1) + random.nextInt(2)), 24);
        hidingRow = random.nextInt(3);
        fill(hidingRow, numbers(lines > 0 && random.nextInt(8) > 0 ? many / lines * lines : many, 0, 1));
    }

    private int[] someModel() {
        if (random.nextInt(12) == 0) return new int[near(7, 9) & 15];
        return numbers(8, 0, random.nextBoolean() ? 999 : 2);
    }

    private int[] somePairs() {
        int many = random.nextInt(7);
        int[] all = new int[2 * many + (random.nextInt(8) == 0 ? 1 : 0)];
        int i = random.nextInt(10);
        for (int j = 0; j + 1 < all.length; j += 2) {
            i += 1 + random.nextInt(2);
            all[j] = random.nextInt(30) == 0 ? near(1, 10) : 1 + (i - 1) % 10;
            all[j + 1] = random.nextInt(30) == 0 ? near(0, 250) : random.nextInt(251);
        }
        return all;
    }

    private Object[] arguments(String name) {
        switch (name) {
            case "row": return all(one(5), near(0, 40));
            case "lay": return all(one(5), near(0, 8), random.nextInt());
            case "at": return all(one(5), near(0, 8));
            case "tear": case "join": case "apart": case "mean": return all(name.equals("tear") ? one(5) : one(2));
            case "copy": return all(one(5), near(0, 6), one(5), near(0, 6), near(0, 6));
            case "text": return all(one(3), near(0, 60));
            case "put": return all(one(3), near(0, 10), near(-128, 255));
            case "cover": return all(one(5), random.nextInt(5) == 0 ? near(0, 4) : 4 * random.nextInt(2), one(5));
            case "grey": return new Object[] {one(5), one(5), near(1, 40), random.nextBoolean()};
            case "wordy": return all(one(5), 4 + near(0, 1), 4 + near(0, 1));
            case "wet": return all(one(5), near(0, Integer.MAX_VALUE - 1));
            case "dots": case "learn": return all(one(5), one(5));
            case "dot": return all(one(5), near(0, 12), near(0, 4));
            case "mark": return all(one(5), near(1, 4));
            case "place": return all(one(5), key(), near(0, 12));
            case "code": return all(one(3), one(3));
            case "line": return all(one(3), near(0, 5));
            case "room": return all(one(5), one(3));
            case "hide": case "price": return all(hidingIn, key(), hidingBy, hidingRow);
            case "read": return all(one(5), key(), one(3), random.nextInt(4) == 0 ? near(0, 40) : near(0, 4), one(5));
            default: return argumentsOfTheRest(name);
        }
    }

    private Object[] argumentsOfTheRest(String name) {
        switch (name) {
            case "changes": case "reach": case "fault": return all(one(3));
            case "parts": return all(near(0, 250), near(1, 5), near(1, 10), key(), one(5));
            case "spread": return all(one(5), key(), near(1, 20));
            case "sum": return all(one(5), key(), near(0, 39));
            case "lineUp": return all(one(5), key());
            case "falseShare": return all(one(5), random.nextBoolean() ? near(-10200, 10200) : near(-900, 900));
            case "cut": return all(one(5), near(0, 6), near(1, 8), one(5));
            case "makes": return all(one(2), near(1, random.nextBoolean() ? 1023 : 7), near(0, random.nextBoolean() ? 4095 : 15));
            case "guilty": return all(one(2), near(1, 4), near(0, random.nextBoolean() ? 4095 : 15));
            case "howFar": return all(one(5), one(2));
            case "bestTest": return all(one(2), one(2));
            case "arrange": return all(one(5), random.nextBoolean() ? near(0, 119) : near(0, 3628799));
            case "count": return all(near(0, 5));
            case "findings": return all(near(1, 5));
            case "kind": case "drop": case "pairs": case "rank": return all(one(5));
            default: return new Object[0];
        }
    }

    private static Object[] all(int... numbers) {
        return Arrays.stream(numbers).boxed().toArray();
    }
}
