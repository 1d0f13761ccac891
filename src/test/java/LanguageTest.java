import java.io.IOException;
import java.lang.reflect.Constructor;
import java.lang.reflect.Field;
import java.lang.reflect.Method;
import java.lang.reflect.Modifier;
import java.nio.file.Files;
import java.nio.file.Path;
import java.util.ArrayList;
import java.util.HashSet;
import java.util.List;
import java.util.Map;
import java.util.Set;
import java.util.TreeMap;
import java.util.TreeSet;
import java.util.regex.Matcher;
import java.util.regex.Pattern;

/** Those rules of LANGUAGE.md that can be seen from the source's words and from the compiled class. */
public final class LanguageTest {
    private static final Due due = new Due();

    private static final String FACE = "best/2 bound/2 burden/3 change/5 count/1 debt/4 erase/0 fault/0 from/2 ground/2 "
        + "hangs/2 has/2 heir/2 lands/1 owes/3 owns/3 pact/5 paid/2 rule/1 rules/0 served/3 since/2 thing/3 voice/4 "
        + "whose/2 without/4 word/5 write/2";

    public static void main(String[] args) throws IOException {
        String source = Files.readString(Path.of("src/main/java/PartedLand.java"));
        String code = withoutComments(source);
        String doc = Files.readString(Path.of("../shared/DOC.md"));
        face();
        facesLines(code, doc);
        facesParts(source, doc);
        members();
        words(code);
        library(code);
        lengths(code);
        callsGoEightDeep(code);
        makesNothingInCalls(code);
        due.end();
    }

    private static String withoutComments(String source) {
        return Pattern.compile("/\\*.*?\\*/", Pattern.DOTALL).matcher(source).replaceAll("").replaceAll("//.*", "");
    }

    /** Rule 1. */
    private static void face() {
        due.part("face");
        Set<String> methods = new TreeSet<>();
        Set<String> names = new HashSet<>();
        for (Method m : PartedLand.class.getDeclaredMethods()) {
            if (m.isSynthetic()) continue;
            if (Modifier.isPublic(m.getModifiers())) {
                methods.add(m.getName() + "/" + m.getParameterCount());
                names.add(m.getName());
                due.holds("answers int: " + m, m.getReturnType() == int.class && !Modifier.isStatic(m.getModifiers()));
            } else {
                due.holds("private: " + m, Modifier.isPrivate(m.getModifiers()));
            }
        }
        due.holds("methods are " + methods, String.join(" ", methods).equals(FACE));
        for (Class<?> inside : PartedLand.class.getDeclaredClasses()) {
            due.holds("static: " + inside, Modifier.isStatic(inside.getModifiers()));
            for (Method m : inside.getDeclaredMethods()) due.holds("no name of the face: " + m, !names.contains(m.getName()));
        }
        for (Constructor<?> c : PartedLand.class.getDeclaredConstructors()) {
            due.holds("constructor", Modifier.isPublic(c.getModifiers()) && c.getParameterCount() == 0);
        }
        due.holds("final", Modifier.isFinal(PartedLand.class.getModifiers()));
    }

    /** Each line of the document's face stands in the class, with its types, names and numbers, and in its order. */
    private static void facesLines(String code, String doc) {
        due.part("the face's lines");
        Matcher line = Pattern.compile("\n    (public [^;]*);").matcher(doc);
        int found = 0;
        int ahead = -1;
        while (line.find()) {
            found++;
            String told = line.group(1);
            int place = code.indexOf(told.contains("=") ? told + ";" : told + " {");
            due.holds("stands not, or in another order: " + told, place > ahead);
            ahead = place;
        }
        due.is("lines of the face", found, 1 + 1 + 28);
    }

    /** "Ahead of the calls .. the interface says: ---- ..": so says the class. */
    private static void facesParts(String source, String doc) {
        due.part("the face's parts");
        Matcher part = Pattern.compile("Ahead of the calls (.*) the interface says: (---- .*)\\.").matcher(doc);
        int found = 0;
        while (part.find()) {
            found++;
            for (String call : part.group(1).split(", ")) {
                int place = source.indexOf("    public int " + call.replace("`", "") + "(");
                int said = source.lastIndexOf("// ---- ", place);
                due.holds(call + " behind " + part.group(2), source.startsWith("// " + part.group(2) + "\n", said));
            }
        }
        due.is("parts of the face", found, 5);
    }

    /** Rules 1, 5, 11. */
    private static void members() {
        due.part("members");
        List<Class<?>> classes = new ArrayList<>(List.of(PartedLand.class.getDeclaredClasses()));
        due.holds("some twelve classes", classes.size() < 12);
        classes.add(PartedLand.class);
        for (Class<?> one : classes) {
            int own = 0;
            for (Field f : one.getDeclaredFields()) {
                boolean isConstant = Modifier.isStatic(f.getModifiers());
                if (!isConstant) own++;
                else due.holds("constant: " + f, Modifier.isFinal(f.getModifiers()) && f.getType() == int.class);
                boolean isPublic = Modifier.isPublic(f.getModifiers());
                due.holds("public ones are constants: " + f, !isPublic || isConstant && one == PartedLand.class);
                if (one == PartedLand.class && !isPublic) due.holds("private: " + f, Modifier.isPrivate(f.getModifiers()));
            }
            due.holds("some twenty fields: " + one, own <= 20);
            for (Method m : one.getDeclaredMethods()) due.holds("seven parameters: " + m, m.getParameterCount() <= 7);
        }
    }

    /** Rules 2, 3, 6. */
    private static void words(String code) {
        due.part("words");
        for (String word : new String[] {"throw", "throws", "try", "catch", "finally", "synchronized", "assert", "Object",
            "package", "Random", "Thread", "float", "double", "var", "yield"}) {
            due.holds("has the word " + word, !Pattern.compile("\\b" + word + "\\b").matcher(code).find());
        }
        due.holds("lambda", !code.contains("->"));
        due.holds("method reference", !code.contains("::"));
        due.holds("texts joined by +", !Pattern.compile("\"\\s*\\+|\\+\\s*\"").matcher(code).find());
        due.holds("signs 1 .. 127", code.chars().allMatch(c -> c >= 1 && c <= 127));
    }

    /** Rule 4. */
    private static void library(String code) {
        due.part("library");
        Matcher imports = Pattern.compile("import ([^;]*);").matcher(code);
        while (imports.find()) due.holds("import " + imports.group(1), imports.group(1).equals("java.util.Arrays"));
        Set<String> calls = Set.of("Arrays.fill", "System.arraycopy", "Math.max", "Integer.bitCount");
        Matcher called = Pattern.compile("\\b([A-Z][a-z]\\w*\\.\\w+)\\(").matcher(code);
        while (called.find()) due.holds("calls " + called.group(1), calls.contains(called.group(1)));
    }

    /** Rule 11. */
    private static void lengths(String code) {
        due.part("lengths");
        int began = 0;
        String[] lines = code.split("\n");
        for (int i = 0; i < lines.length; i++) {
            if (lines[i].matches(" {4}( {4})?\\S.*\\) \\{")) began = i;
            if (lines[i].matches(" {4}( {4})?\\}")) due.holds("a method ends at line " + (i + 1), i - began < 60 || isClassEnd(lines, i));
            due.holds("a line has more than 120 signs: " + (i + 1), lines[i].length() <= 120);
        }
    }

    private static boolean isClassEnd(String[] lines, int i) {
        return lines[i].equals("    }") && i > 0 && lines[i - 1].equals("        }");
    }

    /** Rules 8, 11: no method calls itself, over others neither, and at most eight stand open at once. */
    private static void callsGoEightDeep(String code) {
        due.part("depth");
        Map<String, Set<String>> called = new TreeMap<>();
        Pattern header = Pattern.compile(" {4}(?: {4})?(?:\\w+ )*[\\w\\[\\]]+ (\\w+)\\(.*\\) \\{");
        String method = "";
        for (String line : code.split("\n")) {
            Matcher h = header.matcher(line);
            if (h.matches()) {
                method = h.group(1);
                called.computeIfAbsent(method, m -> new TreeSet<>());
                continue;
            }
            Matcher call = Pattern.compile("(?<!new )\\b(\\w+)\\(").matcher(line);
            while (!method.isEmpty() && call.find()) called.get(method).add(call.group(1));
        }
        due.holds("finds " + called.size() + " methods", called.size() > 80);
        for (String one : called.keySet()) {
            int deep = depth(one, called, 0);
            due.holds(one + " goes " + deep + " deep", deep <= 8);
        }
    }

    private static int depth(String method, Map<String, Set<String>> called, int open) {
        if (open > 20 || !called.containsKey(method)) return 0;
        int deepest = 0;
        for (String next : called.get(method)) deepest = Math.max(deepest, depth(next, called, open + 1));
        return deepest + 1;
    }

    /** Rule 12: all rows are made when the object is made. */
    private static void makesNothingInCalls(String code) {
        due.part("makes");
        for (String line : code.split("\n")) {
            if (!line.matches(".*\\bnew\\b.*")) continue;
            due.holds("made in a call: " + line, line.matches(" {4}( {4})?(private )?final .* = new .*;"));
        }
    }
}
