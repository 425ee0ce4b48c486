import java.lang.reflect.Field;
import java.lang.reflect.Method;
import java.lang.reflect.Modifier;
import java.nio.file.Files;
import java.nio.file.Path;
import java.util.ArrayList;
import java.util.Arrays;
import java.util.List;
import java.util.Set;
import java.util.TreeSet;
import java.util.regex.Matcher;
import java.util.regex.Pattern;

/** The document's public face, and the rules of LANGUAGE.md that can be seen from outside. */
public final class FaceTest {
    private static final String FACE = "row(int,int) lay(int,int,int) at(int,int) tear(int) copy(int,int,int,int,int) mean(int)"
            + " text(int,int) put(int,int,int) cover(int,int,int) grey(int,int,int,boolean) wordy(int,int,int) wet(int,int)"
            + " drop(int) dots(int,int) dot(int,int,int) kind(int) mark(int,int) place(int,int,int) fault(int) code(int,int)"
            + " line(int,int) room(int,int) hide(int,int,int,int) price(int,int,int,int) read(int,int,int,int,int) changes(int)"
            + " reach(int) parts(int,int,int,int,int) join(int) spread(int,int,int) sum(int,int,int) lineUp(int,int)"
            + " falseShare(int,int) cut(int,int,int,int) makes(int,int,int) guilty(int,int,int) apart(int) howFar(int,int)"
            + " bestTest(int,int) learn(int,int) pairs(int) rank(int) arrange(int,int) asked() upper():long lower():long"
            + " count(int) finding() findings(int) digest():long";
    private static final Path DOCUMENT = Path.of("../shared/DOC.md");
    private static final Due due = new Due();

    public static void main(String[] args) throws Exception {
        methods();
        if (Files.exists(DOCUMENT)) document(Files.readString(DOCUMENT));
        fields();
        for (Class<?> inside : HiddenWords.class.getDeclaredClasses()) insideClass(inside);
        due.holds("few classes inside", HiddenWords.class.getDeclaredClasses().length < 12);
        words(Files.readString(Path.of("src/main/java/HiddenWords.java")));
        due.end();
    }

    private static void methods() {
        Set<String> want = new TreeSet<>(Arrays.asList(FACE.split(" ")));
        due.is("the face in this test", want.size(), 50);
        Set<String> got = new TreeSet<>();
        Set<String> publicNames = new TreeSet<>();
        List<String> others = new ArrayList<>();
        for (Method method : HiddenWords.class.getDeclaredMethods()) {
            if (method.isSynthetic()) continue;
            due.holds("at most seven parameters: " + method, method.getParameterCount() <= 7);
            if (Modifier.isPublic(method.getModifiers())) {
                got.add(written(method));
                publicNames.add(method.getName());
                due.holds("no static one in the face: " + method, !Modifier.isStatic(method.getModifiers()));
            } else {
                due.holds("private: " + method, Modifier.isPrivate(method.getModifiers()));
                others.add(method.getName());
            }
        }
        due.holds("the face is " + got, got.equals(want));
        for (String name : others) due.holds("a name of its own: " + name, !publicNames.contains(name));
        due.is("constructors", HiddenWords.class.getDeclaredConstructors().length, 1);
        due.holds("a final class", Modifier.isFinal(HiddenWords.class.getModifiers()));
    }

    private static String written(Method method) {
        StringBuilder all = new StringBuilder(method.getName()).append('(');
        for (Class<?> type : method.getParameterTypes()) {
            if (all.charAt(all.length() - 1) != '(') all.append(',');
            all.append(type.getName());
        }
        return all.append(method.getReturnType() == long.class ? "):long" : ")").toString();
    }

    /** The face that the document writes out, line by line. */
    private static void document(String words) throws ReflectiveOperationException {
        int from = words.indexOf("## The public face");
        String face = words.substring(from, words.indexOf("## Terms", from));
        Set<String> want = new TreeSet<>();
        Matcher method = Pattern.compile("public (int|long) (\\w+)\\((.*?)\\);").matcher(face);
        while (method.find()) {
            String types = method.group(3).replaceAll(" \\w+(,|$)", "$1").replace(" ", "");
            want.add(method.group(2) + "(" + types + (method.group(1).equals("long") ? "):long" : ")"));
        }
        due.holds("the document's face is " + want, want.equals(new TreeSet<>(Arrays.asList(FACE.split(" ")))));
        Matcher constant = Pattern.compile("\\b([A-Z]+) = (-\\d+)").matcher(face);
        int constants = 0;
        while (constant.find()) {
            constants++;
            int value = HiddenWords.class.getField(constant.group(1)).getInt(null);
            due.is(constant.group(1), value, Integer.parseInt(constant.group(2)));
        }
        due.is("the document's constants", constants, 6);
    }

    private static void fields() {
        int constants = 0;
        for (Field field : HiddenWords.class.getDeclaredFields()) {
            int how = field.getModifiers();
            if (Modifier.isPublic(how)) {
                constants++;
                due.holds("a constant: " + field, Modifier.isStatic(how) && Modifier.isFinal(how) && field.getType() == int.class);
            } else {
                due.holds("private: " + field, Modifier.isPrivate(how));
            }
            due.holds("no state for all objects: " + field, !Modifier.isStatic(how) || Modifier.isFinal(how));
        }
        due.is("constants", constants, 6);
    }

    private static void insideClass(Class<?> inside) {
        due.holds("static: " + inside, Modifier.isStatic(inside.getModifiers()));
        int fields = 0;
        for (Field field : inside.getDeclaredFields()) {
            boolean isStatic = Modifier.isStatic(field.getModifiers());
            due.holds("no state for all objects: " + field, !isStatic || Modifier.isFinal(field.getModifiers()));
            if (!isStatic) fields++;
        }
        due.holds("few fields: " + inside, fields <= 20);
        for (Method method : inside.getDeclaredMethods()) {
            due.holds("a name of its own: " + method, !(" " + FACE).contains(" " + method.getName() + "("));
            due.holds("at most seven parameters: " + method, method.getParameterCount() <= 7);
        }
    }

    private static void words(String source) {
        String code = source.replaceAll("(?s)/\\*.*?\\*/", " ").replaceAll("//[^\n]*", " ");
        for (String word : new String[] {"throw", "throws", "try", "catch", "synchronized", "assert", "protected", "instanceof"}) {
            due.holds("the word " + word + " is not there", !code.matches("(?s).*\\b" + word + "\\b.*"));
        }
        for (String sign : new String[] {"->", "::", "Exact(", "NaN", "MAX_VALUE", "System.out", "Random", "\""}) {
            due.holds(sign + " is not there", !code.contains(sign));
        }
        for (String line : code.split("\n")) {
            if (line.startsWith("import ")) due.holds(line, line.equals("import java.util.Arrays;"));
            due.holds("a short line: " + line, line.length() <= 120);
        }
        methodLengths(code);
    }

    private static void methodLengths(String code) {
        int start = -1;
        String[] lines = code.split("\n");
        for (int i = 0; i < lines.length; i++) {
            if (lines[i].matches(" {4}( {4})?\\S.*\\) \\{")) start = i;
            if (lines[i].matches(" {4}( {4})?}") && start >= 0) {
                due.holds("a short method: " + lines[start], i - start < 60);
                start = -1;
            }
        }
    }
}
