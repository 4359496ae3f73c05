import java.io.IOException;
import java.nio.file.Files;
import java.nio.file.Path;
import java.util.ArrayList;
import java.util.List;
import java.util.Set;
import java.util.regex.Matcher;
import java.util.regex.Pattern;

/** What of LANGUAGE.md can be seen in the text of the class, and the document's face. */
public final class SourceTest {
    private static final Path SOURCE = Path.of("src/main/java/PlanLandmarks.java");

    private static final String[] FORBIDDEN = {
        "throw", "throws", "try", "catch", "finally", "synchronized", "assert", "package", "native", "volatile",
        "transient", "strictfp", "instanceof", "lambda", "yield", "goto", "Object", "Map", "HashMap", "Set", "Random",
        "Thread", "Runtime", "Character", "Byte", "Short", "Double", "Float", "Boolean", "Exception", "Override",
        "equals", "hashCode", "toString", "stream", "currentTimeMillis", "nanoTime", "getClass", "while"};

    private static final Set<String> LIBRARY = Set.of(
        "System.arraycopy", "Arrays.fill", "Math.min", "Math.max", "Integer.bitCount");

    private static final String[] FACE = {
        "int row(int,int,int)", "int set(int,int,long)", "int copy(int,int,int,int,int)", "long element(int,int)",
        "int show(int,int)", "int holds(int)", "int says(int,int)", "int action(int,int,int,int)",
        "int macro(int,int)", "int read(int)", "int fault()", "int put(int,int)", "int actionOf(int,int)",
        "int may(int)", "int then(int,int)", "int level(int,int)", "int first(int,int)", "int firstOf(int,int)",
        "int guess(int,int)", "int relaxed(int)", "int helpful(int)", "int landmarks()", "int isAhead(int,int)",
        "int reached()", "int state(int)", "int far(int)", "int numberOf(int)", "int excluded(int)", "int best(int)",
        "int bestAt(int)", "int spell(int)", "int judge(int,int)", "int behind(int,int,int)", "int mostPair(int,int)",
        "int greedy(int,int)", "int walk(int)", "int seed(int)", "int trace(int)", "int image()", "int restore()",
        "int status(int)"};

    private static final List<String> WRONG = new ArrayList<>();

    public static void main(String[] args) throws IOException {
        String text = Files.readString(SOURCE);
        String code = text.replaceAll("(?s)/\\*.*?\\*/", " ").replaceAll("//[^\n]*", " ");
        forbiddenWords(code.replaceAll("\"[^\"\n]*\"|'[^'\n]*'", " "));
        signs(text);
        libraryCalls(code);
        methodLengths(text);
        face();
        members();
        System.out.println("SourceTest: " + WRONG.size() + " wrong");
        if (!WRONG.isEmpty()) {
            WRONG.forEach(System.out::println);
            System.exit(1);
        }
    }

    private static void forbiddenWords(String code) {
        for (String word : FORBIDDEN) {
            if (Pattern.compile("\\b" + word + "\\b").matcher(code).find()) {
                WRONG.add("the class has the word " + word);
            }
        }
        for (String sign : new String[] {"->", "::", "@"}) {
            if (code.contains(sign)) {
                WRONG.add("the class has " + sign);
            }
        }
        Matcher imports = Pattern.compile("\\bimport\\b([^;]*);").matcher(code);
        while (imports.find()) {
            if (!imports.group(1).trim().equals("java.util.Arrays")) {
                WRONG.add("import of" + imports.group(1));
            }
        }
        Matcher made = Pattern.compile("\\bnew\\b").matcher(code);
        int makers = 0;
        while (made.find()) {
            makers++;
        }
        if (makers > 40) {
            WRONG.add("the class makes objects in " + makers + " places");
        }
    }

    private static void signs(String text) {
        for (int i = 0; i < text.length(); i++) {
            if (text.charAt(i) > 126 || text.charAt(i) < 32 && text.charAt(i) != '\n') {
                WRONG.add("sign " + (int) text.charAt(i) + " at " + i);
            }
        }
    }

    private static void libraryCalls(String code) {
        Matcher calls = Pattern.compile("\\b([A-Z][A-Za-z]*)\\.([a-z][A-Za-z]*)\\(").matcher(code);
        while (calls.find()) {
            if (!LIBRARY.contains(calls.group(1) + "." + calls.group(2))) {
                WRONG.add("call of " + calls.group(1) + "." + calls.group(2));
            }
        }
    }

    /** Methods stand at 4 or 8 blanks and end with a brace alone at the same depth. */
    private static void methodLengths(String text) {
        String[] lines = text.split("\n");
        Pattern head = Pattern.compile("^(    |        )[A-Za-z][^=;]*\\([^;]*\\) \\{$");
        for (int i = 0; i < lines.length; i++) {
            Matcher m = head.matcher(lines[i]);
            if (!m.find()) {
                continue;
            }
            int end = i;
            while (end < lines.length && !lines[end].equals(m.group(1) + "}")) {
                end++;
            }
            if (end - i > 60) {
                WRONG.add("a method of " + (end - i) + " lines: " + lines[i].trim());
            }
            if (lines[i].split(",").length > 7) {
                WRONG.add("too many parameters: " + lines[i].trim());
            }
        }
    }

    private static void face() {
        List<String> got = new ArrayList<>();
        for (java.lang.reflect.Method method : PlanLandmarks.class.getDeclaredMethods()) {
            if (!java.lang.reflect.Modifier.isPrivate(method.getModifiers())) {
                String whole = method.toGenericString();
                got.add(whole.replace("public ", "").replace("PlanLandmarks.", ""));
            }
        }
        for (String one : FACE) {
            if (!got.remove(one)) {
                WRONG.add("the face lacks " + one);
            }
        }
        got.forEach(one -> WRONG.add("the face has besides " + one));
        for (java.lang.reflect.Field field : PlanLandmarks.class.getDeclaredFields()) {
            boolean isPrivate = java.lang.reflect.Modifier.isPrivate(field.getModifiers());
            if (!isPrivate && !field.getName().equals("NONE")) {
                WRONG.add("the face has the field " + field.getName());
            }
        }
    }

    /** No class has too many fields, and none inside a method with a name of the face. */
    private static void members() {
        Class<?>[] inside = PlanLandmarks.class.getDeclaredClasses();
        if (inside.length > 11) {
            WRONG.add("there are " + inside.length + " classes inside");
        }
        Set<String> names = new java.util.TreeSet<>();
        for (String one : FACE) {
            names.add(one.substring(one.indexOf(' ') + 1, one.indexOf('(')));
        }
        List<Class<?>> all = new ArrayList<>(List.of(inside));
        all.add(PlanLandmarks.class);
        for (Class<?> one : all) {
            int fields = 0;
            for (java.lang.reflect.Field field : one.getDeclaredFields()) {
                fields += java.lang.reflect.Modifier.isStatic(field.getModifiers()) ? 0 : 1;
            }
            if (fields > 20) {
                WRONG.add(one + " has " + fields + " fields");
            }
            for (java.lang.reflect.Method method : one.getDeclaredMethods()) {
                if (one != PlanLandmarks.class && names.contains(method.getName())) {
                    WRONG.add(one + " has a method with the name " + method.getName());
                }
            }
        }
    }
}
