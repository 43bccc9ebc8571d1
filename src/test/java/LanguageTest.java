import java.io.IOException;
import java.nio.file.Files;
import java.nio.file.Path;
import java.util.ArrayList;
import java.util.HashMap;
import java.util.HashSet;
import java.util.List;
import java.util.Map;
import java.util.Set;
import java.util.regex.Matcher;
import java.util.regex.Pattern;

/** Those rules of LANGUAGE.md that can be read off the text of the class; run from the project's folder. */
public final class LanguageTest {
    private static final Path SOURCE = Path.of("src/main/java/BimatrixGames.java");
    private static final Set<String> FORBIDDEN = Set.of(
        "package", "import", "interface", "enum", "record", "float", "double", "String", "Object", "Math",
        "Integer", "Long", "System", "Arrays", "null", "throw", "throws", "try", "catch", "finally",
        "synchronized", "assert", "instanceof", "var", "protected", "native", "super");
    private static final Pattern METHOD = Pattern.compile(
        "^    (?:public|private) (?:static )?(?:(?:int|long|boolean|void) )?(\\w+)\\(([^)]*)\\) \\{$");

    private static int wrong = 0;

    private static void check(boolean holds, String what) {
        if (!holds) {
            wrong++;
            System.out.println("not so: " + what);
        }
    }

    private static String withoutComments(String text) {
        return text.replaceAll("(?s)/\\*.*?\\*/", "").replaceAll("//[^\n]*", "");
    }

    private static void checkWords(String code) {
        Matcher word = Pattern.compile("[A-Za-z_]\\w*").matcher(code);
        while (word.find()) {
            check(!FORBIDDEN.contains(word.group()), "rules 1 to 6: the word " + word.group() + " is not used");
        }
        check(!code.contains("->") && !code.contains("::"), "rule 6: no lambda, no method reference");
        check(!code.contains("\"") && !code.contains("@"), "rule 2: no text, no annotation");
        check(!code.contains("[]["), "rule 2: arrays of one dimension");
    }

    private static void checkArrays(String code) {
        for (String line : code.split("\n")) {
            if (line.contains("new ")) {
                check(line.matches("    private final (int|long)\\[\\] \\w+ = new (int|long)\\[[1-9]\\d*\\];"),
                    "rule 4: arrays are made in a field's initialiser: " + line);
            }
            if (line.contains("static") && line.contains("=")) {
                check(line.matches("    (public|private) static final (int|long) \\w+ = -?\\d+;"),
                    "rule 5: a static field is a constant: " + line);
            }
        }
    }

    /** The methods by name, each with the lines of its body. */
    private static Map<String, List<String>> methods(String code) {
        Map<String, List<String>> found = new HashMap<>();
        List<String> body = null;
        for (String line : code.split("\n")) {
            Matcher head = METHOD.matcher(line);
            if (head.matches()) {
                int parameters = head.group(2).isEmpty() ? 0 : head.group(2).split(",").length;
                check(parameters <= 7, "rule 10: at most seven parameters: " + head.group(1));
                check(!found.containsKey(head.group(1)), "rule 1: one method of the name " + head.group(1));
                body = new ArrayList<>();
                found.put(head.group(1), body);
            } else if (line.equals("    }")) {
                body = null;
            } else if (body != null) {
                body.add(line);
            } else {
                check(!line.contains("("), "every method's head is understood: " + line);
            }
        }
        return found;
    }

    private static Set<String> called(List<String> body) {
        Set<String> names = new HashSet<>();
        Matcher call = Pattern.compile("(\\w+)\\(").matcher(String.join("\n", body));
        while (call.find()) {
            names.add(call.group(1));
        }
        return names;
    }

    /** How many methods stand upon each other at most, this one counted; recursion shows as a large number. */
    private static int depth(Map<String, List<String>> methods, String name, int above) {
        if (above > 20) {
            return above;
        }
        int deepest = 0;
        for (String other : called(methods.get(name))) {
            check(methods.containsKey(other), "rule 3: " + other + " is a method of the class");
            if (methods.containsKey(other)) {
                deepest = Math.max(deepest, depth(methods, other, above + 1));
            }
        }
        return deepest + 1;
    }

    private static void checkMethods(String code) {
        Map<String, List<String>> methods = methods(code);
        check(methods.size() > 14, "the methods are found");
        for (Map.Entry<String, List<String>> method : methods.entrySet()) {
            String name = method.getKey();
            check(method.getValue().size() <= 60, "rule 10: " + name + " is short");
            check(depth(methods, name, 0) <= 6, "rules 8 and 10: calls of " + name + " go at most six deep");
            for (String line : method.getValue()) {
                check(!line.matches(".*\\w\\([^()]*\\w\\(.*\\).*"), "rule 10: no call in a call: " + line);
                check(!line.matches("\\s*(\\} )?while .*|\\s*do .*|.*for \\(;.*"), "rule 8: counted loops: " + line);
            }
        }
    }

    public static void main(String[] args) throws IOException {
        String code = withoutComments(Files.readString(SOURCE));
        checkWords(code);
        checkArrays(code);
        checkMethods(code);
        check(code.lines().filter(l -> l.matches("    private [^()]*;")).count() <= 40, "rule 10: at most forty fields");
        System.out.println(wrong == 0 ? "the language is as due" : wrong + " things are not as due");
        if (wrong != 0) {
            System.exit(1);
        }
    }
}
