import java.io.IOException;
import java.nio.file.Files;
import java.nio.file.Path;
import java.util.LinkedHashMap;
import java.util.Map;
import java.util.regex.Matcher;
import java.util.regex.Pattern;

/**
 * Rules 8 and 11 of LANGUAGE.md, by a scan of the source: no method calls itself, calls go at most
 * eight deep, methods stay short. Methods of one name in two classes are taken for one, which can
 * only make the calls seem deeper.
 */
public final class DepthTest {
    private static final int DEEPEST = 8, LONGEST = 60;
    private static final Pattern METHOD = Pattern.compile(
            "(?m)^( {4}| {8})(?!return|else|if|for|while|switch)(?:[\\w\\[\\]]+ )*(\\w+)\\([^;{]*\\) \\{$");

    private final Map<String, String> bodies = new LinkedHashMap<>();
    private final Map<String, Integer> depths = new LinkedHashMap<>();

    private DepthTest() {
    }

    public static void main(String[] args) throws IOException {
        String text = Files.readString(Path.of("src/main/java/CrookedFrames.java"));
        DepthTest all = new DepthTest();
        all.findMethods(text.replaceAll("(?s)/\\*.*?\\*/", "").replaceAll("//[^\n]*", ""));
        // The face has 33 of them, the constructor with it: a scan that finds none would tell nothing.
        Due.same("methods were found", all.bodies.size() > 33 && all.bodies.containsKey("letCome"), true);
        for (String name : all.bodies.keySet()) {
            Due.same(name + " goes at most eight deep", all.depth(name, 0) <= DEEPEST, true);
        }
        Due.close();
    }

    private void findMethods(String code) {
        Matcher m = METHOD.matcher(code);
        while (m.find()) {
            int end = code.indexOf("\n" + m.group(1) + "}", m.end());
            String body = code.substring(m.end(), Math.max(end, m.end()));
            Due.same(m.group(2) + " is short", end > 0 && body.lines().count() <= LONGEST, true);
            bodies.merge(m.group(2), body, String::concat);
        }
    }

    /** How many calls of the class's own stand open at most, this one too. */
    private int depth(String name, int open) {
        if (open > DEEPEST) {
            return 1;
        }
        Integer known = depths.get(name);
        if (known != null) {
            return known;
        }
        int deepest = 0;
        for (String other : bodies.keySet()) {
            if (Pattern.compile("\\b" + other + "\\(").matcher(bodies.get(name)).find()) {
                deepest = Math.max(deepest, depth(other, open + 1));
            }
        }
        if (open == 0) {
            depths.put(name, deepest + 1);
        }
        return deepest + 1;
    }
}
