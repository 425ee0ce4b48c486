import java.io.IOException;
import java.lang.reflect.InvocationTargetException;
import java.lang.reflect.Method;
import java.nio.file.Files;
import java.nio.file.Path;
import java.util.ArrayList;
import java.util.Arrays;
import java.util.HashSet;
import java.util.List;
import java.util.Map;
import java.util.Set;
import java.util.TreeMap;
import java.util.regex.Matcher;
import java.util.regex.Pattern;
import java.util.stream.Collectors;
import java.util.stream.Stream;

/**
 * The boundary cases that the document names, sentence by sentence: the files in src/test/edges,
 * whose form src/test/edges/README.md tells. Behind each call all that can be asked is looked at,
 * so that what is refused is seen to change nothing but the findings.
 */
public final class EdgesTest {
    private static final Path EDGES = Path.of("src/test/edges"), DOCUMENT = Path.of("../shared/DOC.md");
    private static final List<String> FINDINGS = List.of("", "NOTHING", "BEYOND", "UNLIKE", "NOUGHT", "SIZE");
    private static final Map<String, Integer> ANSWERS = Map.of("BAD", -1, "STATE", -4, "SPENT", -6, "NONE", -9);
    private static final Pattern REFUSAL = Pattern.compile("\\b(BAD|FULL|STATE|SPENT|NONE|NOTHING|BEYOND|UNLIKE|NOUGHT|SIZE)\\b");
    private static final Set<String> NEVER_REFUSED = Set.of("asked", "upper", "lower", "finding", "digest");
    private static final int PROMISES = 51, MOST_CALLS = 512;

    private static final Due due = new Due();
    private static final Map<String, List<String>> quoted = new TreeMap<>();
    private static final Map<String, Method> methods = new TreeMap<>();

    private HiddenWords x = new HiddenWords();
    private int calls = 0;
    /** What could be asked behind the latest call; null behind lines that fill or compare. */
    private long[] latest = null;
    private String section = "";
    private String where = "";

    public static void main(String[] args) throws IOException {
        for (Method method : HiddenWords.class.getMethods()) methods.put(method.getName(), method);
        List<Path> files;
        try (Stream<Path> all = Files.list(EDGES)) {
            files = all.filter(file -> file.toString().endsWith(".txt")).sorted().collect(Collectors.toList());
        }
        for (Path file : files) new EdgesTest().run(file);
        if (Files.exists(DOCUMENT)) compareWithDocument(Files.readString(DOCUMENT));
        due.end();
    }

    private void run(Path file) throws IOException {
        int number = 0;
        for (String line : Files.readAllLines(file)) {
            number++;
            where = file.getFileName() + ":" + number + ": " + line;
            if (!line.isBlank() && !line.startsWith("#")) line(line.strip());
        }
    }

    private void line(String line) {
        if (line.startsWith("== ")) {
            section = line.substring(3);
        } else if (line.startsWith("> ")) {
            quoted.computeIfAbsent(section, any -> new ArrayList<>()).add(plain(line.substring(2)));
            begin();
        } else if (line.equals("new")) {
            begin();
        } else if (fills(line) || compares(line)) {
            latest = null;
        } else {
            Matcher call = Pattern.compile("(\\w+)\\((.*?)\\) = (\\S+)").matcher(line);
            if (call.matches()) call(call.group(1), call.group(2), call.group(3));
            else due.holds(where + ": such a line is not known", false);
        }
        due.holds(where + ": an object's 512 calls are over", calls <= MOST_CALLS);
    }

    private void begin() {
        x = new HiddenWords();
        calls = 0;
        latest = null;
    }

    // ---- lines that fill and compare

    private boolean fills(String line) {
        Matcher row = Pattern.compile("row (\\d): ?(.*)").matcher(line);
        if (row.matches()) {
            int[] values = numbers(row.group(2));
            calls += 1 + values.length;
            Due.row(x, Integer.parseInt(row.group(1)), values);
            return true;
        }
        Matcher text = Pattern.compile("text (\\d): \\[(.*)\\]").matcher(line);
        if (!text.matches()) return false;
        calls += 1 + text.group(2).length();
        Due.text(x, Integer.parseInt(text.group(1)), text.group(2));
        return true;
    }

    private boolean compares(String line) {
        Matcher told = Pattern.compile("told: (-?\\d+)/(\\d+)").matcher(line);
        if (told.matches()) {
            calls += 2;
            due.is(where + ": upper()", x.upper(), Long.parseLong(told.group(1)));
            due.is(where + ": lower()", x.lower(), Long.parseLong(told.group(2)));
            return true;
        }
        Matcher row = Pattern.compile("row (\\d) is: ?(.*)").matcher(line);
        if (row.matches()) {
            int[] values = numbers(row.group(2));
            for (int i = 0; i < values.length; i++) due.is(where, Due.told(x, x.at(Integer.parseInt(row.group(1)), i)), values[i]);
            due.is(where + ": its end", beyond(x.at(Integer.parseInt(row.group(1)), values.length)), 2);
            calls += 2 * values.length + 2;
            return true;
        }
        Matcher dots = Pattern.compile("dots (\\d)( BIT| FLIPPED| PRICE| WET|) are: ?(.*)").matcher(line);
        if (!dots.matches()) return false;
        int what = List.of("", " BIT", " FLIPPED", " PRICE", " WET").indexOf(dots.group(2));
        int[] values = numbers(dots.group(3));
        for (int i = 0; i < values.length; i++) due.is(where, Due.told(x, x.dot(Integer.parseInt(dots.group(1)), i, what)), values[i]);
        due.is(where + ": its end", beyond(x.dot(Integer.parseInt(dots.group(1)), values.length, what)), 2);
        calls += 2 * values.length + 2;
        return true;
    }

    private int beyond(int answer) {
        return answer == HiddenWords.FINDING ? x.finding() : 0;
    }

    /** Numbers with blanks between; 7*3 is three times 7, 1..4 is 1 2 3 4, 4..1 is 4 3 2 1. */
    private static int[] numbers(String words) {
        List<Integer> all = new ArrayList<>();
        for (String word : words.strip().split("\\s+")) {
            if (word.isEmpty()) continue;
            if (word.contains("*")) {
                String[] times = word.split("\\*");
                for (int i = 0; i < Integer.parseInt(times[1]); i++) all.add(number(times[0]));
            } else if (word.contains("..")) {
                String[] ends = word.split("\\.\\.");
                int from = number(ends[0]);
                int to = number(ends[1]);
                int way = from < to ? 1 : -1;
                for (int v = from; v != to + way; v += way) all.add(v);
            } else {
                all.add(number(word));
            }
        }
        return all.stream().mapToInt(i -> i).toArray();
    }

    private static int number(String word) {
        if (word.equals("MIN")) return Integer.MIN_VALUE;
        return word.equals("MAX") ? Integer.MAX_VALUE : Integer.parseInt(word);
    }

    // ---- calls

    private void call(String name, String arguments, String want) {
        Method method = methods.get(name);
        String[] words = arguments.isBlank() ? new String[0] : arguments.split(",");
        if (method == null || method.getParameterCount() != words.length) {
            due.holds(where + ": no such call", false);
            return;
        }
        Object[] all = new Object[words.length];
        for (int i = 0; i < all.length; i++) {
            boolean isWhether = method.getParameterTypes()[i] == boolean.class;
            all[i] = isWhether ? (Object) words[i].strip().equals("true") : (Object) number(words[i].strip());
        }
        long[] before = latest == null ? state() : latest;
        long got = answer(method, all);
        int finding = FINDINGS.indexOf(want);
        boolean refused = !NEVER_REFUSED.contains(name) && (finding > 0 || ANSWERS.containsKey(want));
        if (finding > 0) due.is(where, got, HiddenWords.FINDING);
        else due.is(where, got, ANSWERS.containsKey(want) ? ANSWERS.get(want) : Long.parseLong(want));
        latest = state();
        lookAround(before, latest, refused, finding);
        calls++;
    }

    private long answer(Method method, Object[] arguments) {
        try {
            return ((Number) method.invoke(x, arguments)).longValue();
        } catch (InvocationTargetException thrown) {
            due.holds(where + ": threw " + thrown.getCause(), false);
        } catch (IllegalAccessException never) {
            due.holds(where + ": " + never, false);
        }
        return Long.MIN_VALUE;
    }

    private long[] state() {
        calls += 10;
        long[] all = {x.digest(), x.asked(), x.upper(), x.lower(), x.finding(), 0, 0, 0, 0, 0};
        for (int f = 1; f <= 5; f++) all[4 + f] = x.findings(f);
        return all;
    }

    private void lookAround(long[] before, long[] now, boolean refused, int finding) {
        String[] parts = {"digest()", "asked()", "upper()", "lower()"};
        for (int i = 0; i < parts.length && refused; i++) due.is(where + ": " + parts[i] + " stays", now[i], before[i]);
        due.is(where + ": finding()", now[4], finding > 0 ? finding : before[4]);
        for (int f = 1; f <= 5; f++) {
            due.is(where + ": findings(" + f + ")", now[4 + f], before[4 + f] + (f == finding ? 1 : 0));
        }
    }

    // ---- the document

    private static String plain(String words) {
        return words.replaceAll("\\s+", " ").strip();
    }

    /** What is quoted stands in the document, and each refusal that a promise names is quoted. */
    private static void compareWithDocument(String document) {
        Map<String, String> sections = new TreeMap<>();
        for (String part : document.split("(?m)^## ")) {
            String[] halves = part.split("\n", 2);
            if (halves.length == 2) sections.put(halves[0].strip(), plain(halves[1]));
        }
        quoted.forEach((title, all) -> {
            String words = sections.getOrDefault(title, "");
            for (String quote : all) due.holds("'" + quote + "' stands in '" + title + "'", words.contains(quote));
        });
        Set<Integer> promises = new HashSet<>();
        sections.forEach((title, words) -> {
            Matcher promise = Pattern.compile("Promise (\\d+): .*").matcher(title);
            if (!promise.matches()) return;
            promises.add(Integer.parseInt(promise.group(1)));
            allQuoted(title, words, quoted.getOrDefault(title, List.of()));
        });
        due.is("promises in the document", promises.size(), PROMISES);
    }

    private static void allQuoted(String title, String words, List<String> quotes) {
        due.holds("'" + title + "' is quoted", !quotes.isEmpty());
        boolean[] covered = new boolean[words.length()];
        for (String quote : quotes) {
            for (int at = words.indexOf(quote); at >= 0; at = words.indexOf(quote, at + 1)) {
                Arrays.fill(covered, at, at + quote.length(), true);
            }
        }
        Matcher refusal = REFUSAL.matcher(words);
        while (refusal.find()) {
            due.holds("'" + title + "', " + refusal.group() + " at " + refusal.start() + " is quoted", covered[refusal.start()]);
        }
    }
}
