import java.io.IOException;
import java.nio.file.Files;
import java.nio.file.Path;
import java.util.HashMap;
import java.util.HashSet;
import java.util.Map;
import java.util.Set;
import java.util.regex.Matcher;
import java.util.regex.Pattern;

/**
 * The limits of LANGUAGE.md on the shape of the class: how long its methods are, how many parameters
 * they take, how deep calls go. Methods of one name in two classes are looked at as one, so a
 * depth may be told too great, but never too small.
 */
public final class ShapeTest {
    private static final int LONGEST = 60;
    private static final int DEEPEST = 8;
    private static final int PARAMETERS = 7;
    private static final Pattern METHOD = Pattern.compile("(?m)^( +)(?:[\\w\\[\\]]+ )*(\\w+)\\(([^)]*)\\) \\{$");
    private static final Pattern CALL = Pattern.compile("\\b(\\w+)\\(");

    private static final Map<String, Set<String>> CALLED = new HashMap<>();

    public static void main(String[] args) throws IOException {
        String source = Files.readString(Path.of("src/main/java/SmokeLedger.java"));
        String code = source.replaceAll("(?s)/\\*.*?\\*/", " ").replaceAll("//[^\n]*", " ");
        Matcher method = METHOD.matcher(code);
        while (method.find()) {
            String end = "\n" + method.group(1) + "}\n";
            String body = code.substring(method.end(), code.indexOf(end, method.end()) + 1);
            lookAt(method.group(2), method.group(3), body);
        }
        Due.holds("the methods of the face were found, and more", CALLED.size() > 27);
        for (String name : CALLED.keySet()) {
            Due.holds(name + " goes no deeper than it may", depthOf(name, new HashSet<>()) <= DEEPEST);
        }
        Due.finish();
    }

    private static void lookAt(String name, String parameters, String body) {
        Due.holds(name + " has few parameters", parameters.split(",").length <= PARAMETERS);
        Due.holds(name + " is short", body.split("\n").length <= LONGEST);
        Set<String> called = CALLED.computeIfAbsent(name, each -> new HashSet<>());
        Matcher call = CALL.matcher(body);
        while (call.find()) {
            called.add(call.group(1));
        }
    }

    /** The library's own methods are one call each. */
    private static int depthOf(String name, Set<String> open) {
        if (!open.add(name)) {
            Due.holds(name + " does not call itself", false);
            return 0;
        }
        int deepest = 0;
        for (String called : CALLED.getOrDefault(name, Set.of())) {
            deepest = Math.max(deepest, depthOf(called, open));
        }
        open.remove(name);
        return 1 + deepest;
    }
}
