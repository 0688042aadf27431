import java.io.IOException;
import java.nio.file.Files;
import java.nio.file.Path;
import java.util.ArrayDeque;
import java.util.ArrayList;
import java.util.HashMap;
import java.util.List;
import java.util.Map;
import java.util.Set;
import java.util.TreeSet;
import java.util.function.Consumer;
import java.util.regex.Matcher;
import java.util.regex.Pattern;

/**
 * The rules of ../shared/LANGUAGE.md that can be seen in the words of the class. What a rule allows and the class makes
 * no use of is refused here, too: who needs it loosens the test.
 */
public final class LanguageTest {
    private static final Checks checks = new Checks();
    private static final Set<String> LIBRARY = Set.of("Integer.bitCount", "Math.floorMod", "Math.max", "Math.min");
    private static final Set<String> TYPES = Set.of("String", "Integer", "Math");
    private static final String[] NEVER = {
        "package", "import", "protected", "synchronized", "assert", "throw", "throws", "try", "catch", "finally",
        "instanceof", "float", "double", "while", "do", "var", "native", "transient", "volatile", "strictfp"
    };
    private static final Pattern METHOD =
        Pattern.compile("(?m)^ +(?:(?:public|private|static|final) )*(?:([\\w\\[\\]]+) )?(\\w+)\\(([^()]*)\\) \\{");

    /** A method's or a constructor's name, its parameters, and its text from the name's line to the closing brace. */
    private static final class Part {
        final String name;
        final String parameters;
        final String text;
        final boolean isConstructor;

        Part(String name, String parameters, String text, boolean isConstructor) {
            this.name = name;
            this.parameters = parameters;
            this.text = text;
            this.isConstructor = isConstructor;
        }
    }

    public static void main(String[] args) throws IOException {
        String source = bare(Files.readString(Path.of("src/main/java/NewsDraughts.java")));
        List<Part> parts = partsOf(source);
        holds("methods are found", parts.size() > 100);
        words(source);
        classes(source);
        library(source);
        staticFields(source);
        indexes(source);
        divisors(source);
        loops(source);
        for (Part part : parts) sizes(part);
        objects(source, parts);
        depth(parts);
        checks.end();
    }

    private static void holds(String what, boolean so) {
        checks.due(what, so ? 1 : 0, 1);
    }

    /** Without comments and without what stands in texts and signs. */
    private static String bare(String source) {
        return source.replaceAll("(?s)/\\*.*?\\*/", "").replaceAll("//[^\n]*", "")
            .replaceAll("\"[^\"\n]*\"", "\"\"").replaceAll("'[^'\n]'", "' '");
    }

    private static List<Part> partsOf(String source) {
        List<Part> parts = new ArrayList<>();
        Matcher m = METHOD.matcher(source);
        while (m.find()) {
            if (Set.of("if", "for", "switch").contains(m.group(2))) continue;
            int open = 1, end = m.end();
            for (; end < source.length() && open > 0; end++) {
                char c = source.charAt(end);
                open += c == '{' ? 1 : c == '}' ? -1 : 0;
            }
            boolean isConstructor = Character.isUpperCase(m.group(2).charAt(0));
            parts.add(new Part(m.group(2), m.group(3), source.substring(m.start(), end), isConstructor));
        }
        return parts;
    }

    private static void each(String regex, String source, Consumer<Matcher> look) {
        Matcher m = Pattern.compile(regex).matcher(source);
        while (m.find()) look.accept(m);
    }

    /** Rules 1, 2, 3, 6 and 10. */
    private static void words(String source) {
        for (String word : NEVER) holds("no " + word, !Pattern.compile("\\b" + word + "\\b").matcher(source).find());
        for (String sign : new String[] {"->", "::", "@", "\"\" +", "+ \"\"", "[][]", "}, new", "\\u"}) {
            holds("no " + sign, !source.contains(sign));
        }
        each("\\) \\{\\s*\\n\\s*@", source, m -> holds("no class without a name", false));
        each("[^\\x00-\\x7f]", source, m -> holds("a sign that is none of ASCII", false));
    }

    /** Rules 2 and 11. */
    private static void classes(String source) {
        int[] classes = {0};
        each("(?m)^( *)(.*)\\b(?:class|enum|interface|record) (\\w+)", source, m -> {
            classes[0]++;
            String how = m.group(1).isEmpty() ? "public final " : "private static final ";
            holds(m.group(3) + " is " + how, m.group(2).equals(how));
        });
        holds("twelve classes at most: " + classes[0], classes[0] <= 12);
        for (Class<?> inside : NewsDraughts.class.getDeclaredClasses()) {
            holds("twenty fields at most: " + inside, inside.getDeclaredFields().length <= 20);
        }
    }

    /** Rule 4: every name that begins with a capital and then small letters is a class of its own or told here. */
    private static void library(String source) {
        Set<String> own = new TreeSet<>();
        each("\\bclass (\\w+)", source, m -> own.add(m.group(1)));
        each("\\b[A-Z]\\w*[a-z]\\w*\\b", source, m -> {
            holds("a known type: " + m.group(), own.contains(m.group()) || TYPES.contains(m.group()));
        });
        each("\\b(?:Integer|Math|String)\\.\\w+", source, m -> holds(m.group(), LIBRARY.contains(m.group())));
    }

    /** Rule 5. */
    private static void staticFields(String source) {
        each("(?m)^.*\\bstatic\\b[^({\n]*[=;].*$", source, m -> {
            holds("a constant:" + m.group(), m.group().matches(" +(public|private) static final (int|String) .*"));
        });
    }

    /** Rule 7: what is between brackets is looked at in the same line. */
    private static void indexes(String source) {
        each("(?m)^.*\\w\\[[^\\]].*$", source.replaceAll("new \\w+\\[", "new ("), m -> {
            holds("an index that is looked at:" + m.group(), m.group().contains(" < ") && m.group().contains(".length"));
        });
    }

    /** Rule 7: a divisor is a number above 0 or looked at in its own line or the one ahead of it. */
    private static void divisors(String source) {
        String[] lines = source.split("\n");
        for (int i = 1; i < lines.length; i++) {
            String near = lines[i - 1] + lines[i];
            boolean looked = near.contains(" > 0") || near.contains(".length == 0) return null;");
            Matcher m = Pattern.compile("[/%]=? *([^ ;]+)|floorMod|floorDiv").matcher(lines[i]);
            while (m.find()) {
                boolean isNumber = m.group(1) != null && m.group(1).matches("\\(?[1-9]\\d*\\)*[;,]?");
                holds("a divisor that is looked at:" + lines[i], isNumber || looked);
            }
        }
    }

    /** Rule 9: a counter against a bound in the line of the loop. */
    private static void loops(String source) {
        each("(?m)^.*\\bfor \\((.*)$", source, m -> {
            String bounded = "int \\w+ = [^;]+; [^;]*\\w+ (<|<=|>=) [^;]+; \\w+(\\+\\+|--)\\).*";
            holds("a loop with an end:" + m.group(), m.group(1).matches(bounded));
        });
    }

    /** Rule 11. */
    private static void sizes(Part part) {
        int lines = part.text.split("\n").length;
        holds(part.name + " is short: " + lines, lines <= 60);
        int parameters = part.parameters.isEmpty() ? 0 : part.parameters.split(",").length;
        holds(part.name + " takes seven at most: " + parameters, parameters <= 7);
    }

    /** Rule 12: objects are made in constructors and where fields are told, never by a call. */
    private static void objects(String source, List<Part> parts) {
        int inAll = made(source), inMaking = 0;
        for (Part part : parts) {
            if (part.isConstructor) inMaking += made(part.text);
            else holds(part.name + " makes no object", made(part.text) == 0);
        }
        int[] inFields = {0};
        each("(?m)^ +private final \\w+\\[\\] \\w+ = new \\w+\\[\\w+\\];$", source, m -> inFields[0]++);
        checks.due("every object is made in a constructor or a field", inMaking + inFields[0], inAll);
    }

    private static int made(String text) {
        int[] made = {0};
        each("\\bnew\\b", text, m -> made[0]++);
        return made[0];
    }

    /** Rules 8 and 11; methods of one name in several classes count as one that calls what any of them does. */
    private static void depth(List<Part> parts) {
        Map<String, Set<String>> calls = new HashMap<>();
        Set<String> names = new TreeSet<>();
        for (Part part : parts) names.add(part.name);
        for (Part part : parts) {
            Set<String> called = calls.computeIfAbsent(part.name, name -> new TreeSet<>());
            String body = part.text.substring(part.text.indexOf('{'));
            each("\\b(\\w+)\\(", body, m -> {
                if (names.contains(m.group(1))) called.add(m.group(1));
            });
        }
        for (String name : names) {
            int deep = deepest(name, calls, new ArrayDeque<>());
            holds(name + " goes eight deep at most: " + deep, deep <= 8);
        }
    }

    private static int deepest(String name, Map<String, Set<String>> calls, ArrayDeque<String> open) {
        if (open.contains(name)) return 1000;
        open.push(name);
        int deepest = 0;
        for (String called : calls.get(name)) deepest = Math.max(deepest, deepest(called, calls, open));
        open.pop();
        return deepest + 1;
    }
}
