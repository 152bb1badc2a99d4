import java.io.IOException;
import java.lang.reflect.Method;
import java.lang.reflect.Modifier;
import java.nio.file.Files;
import java.nio.file.Path;
import java.util.HashMap;
import java.util.HashSet;
import java.util.Map;
import java.util.Set;
import java.util.regex.Matcher;
import java.util.regex.Pattern;

/** README.md says what is so: its example, its list of calls, its findings. */
public final class ReadmeTest {
    private static final Pattern CALL = Pattern.compile("(?m)^x\\.(\\w+)\\(([^)]*)\\);\\s*// (-?\\d+)\\b");
    private static final Pattern FINDING = Pattern.compile("(-100000000\\d) ([A-Z]+)");
    private static final Pattern ROW = Pattern.compile("(?m)^\\| (-100000000\\d) \\| ([A-Z]+) \\|.*\\| (\\d) \\|$");
    private static final Pattern NAMED = Pattern.compile("`(\\w+)`");

    private static int passed = 0;
    private static int failed = 0;

    private static void due(String what, Object got, Object want) {
        if (got.equals(want)) {
            passed++;
        } else {
            failed++;
            System.out.println(what + ": " + got + ", due is " + want);
        }
    }

    private static Map<String, Method> calls() {
        Map<String, Method> byName = new HashMap<>();
        for (Method m : TideQuarter.class.getDeclaredMethods()) {
            if (Modifier.isPublic(m.getModifiers())) {
                byName.put(m.getName(), m);
            }
        }
        return byName;
    }

    private static void example(String readme) throws ReflectiveOperationException {
        Map<String, Method> byName = calls();
        TideQuarter x = new TideQuarter();
        Matcher told = CALL.matcher(readme);
        int many = 0;
        while (told.find()) {
            String[] arguments = told.group(2).isEmpty() ? new String[0] : told.group(2).split(", ");
            Object[] values = new Object[arguments.length];
            for (int i = 0; i < values.length; i++) {
                values[i] = Integer.decode(arguments[i]);
            }
            Object got = byName.get(told.group(1)).invoke(x, values);
            due("README.md, " + told.group(), ((Number) got).longValue(), Long.parseLong(told.group(3)));
            many++;
        }
        due("each line of the example is tried", many, readme.split("\nx\\.").length - 1);
        due("there is an example", many > 0, true);
    }

    private static void lists(String readme) {
        int from = readme.indexOf("The calls, as");
        int till = readme.indexOf("### Findings");
        due("there is a list of the calls", from >= 0 && till > from, true);
        if (from < 0 || till < from) {
            return;
        }
        Set<String> named = new HashSet<>();
        Matcher name = NAMED.matcher(readme.substring(from, till));
        while (name.find()) {
            due(name.group(1) + " is named once", named.add(name.group(1)), true);
        }
        due("the calls that are named", named, calls().keySet());
    }

    private static void findings(String readme, String document) {
        Map<String, String> told = new HashMap<>();
        Matcher row = ROW.matcher(readme);
        while (row.find()) {
            told.put(row.group(1), row.group(2));
            due("status() of " + row.group(2), -1000000001 - Integer.parseInt(row.group(3)), Integer.valueOf(row.group(1)));
        }
        Map<String, String> want = new HashMap<>();
        Matcher finding = FINDING.matcher(document);
        while (finding.find()) {
            want.put(finding.group(1), finding.group(2));
        }
        due("the findings that are told", told, want);
        due("the document tells findings", want.size(), 7);
    }

    public static void main(String[] args) throws IOException, ReflectiveOperationException {
        String readme = Files.readString(Path.of("README.md"));
        example(readme);
        lists(readme);
        findings(readme, Files.readString(Path.of("../shared/DOC.md")));
        due("512 calls are told", readme.contains("512 calls"), true);
        System.out.println(passed + " passed, " + failed + " failed");
        if (failed != 0) {
            System.exit(1);
        }
    }
}
