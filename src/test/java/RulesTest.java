import java.io.IOException;
import java.lang.reflect.Constructor;
import java.lang.reflect.Field;
import java.lang.reflect.Method;
import java.lang.reflect.Modifier;
import java.nio.file.Files;
import java.nio.file.Path;
import java.util.ArrayList;
import java.util.HashSet;
import java.util.List;
import java.util.Set;
import java.util.TreeSet;
import java.util.regex.Matcher;
import java.util.regex.Pattern;

/** What can be seen from outside of the face that the document gives and of the rules of LANGUAGE.md. */
public final class RulesTest {
    private static final String PROGRAM = "src/main/java/TideQuarter.java";
    private static final String[] FACE = {
        "int tides(int,int)", "int sets(int,int)", "int wind(int,int)", "int tide(int,int)", "int turned(int)",
        "int between(int)", "int looks(int,int)", "int front(int,int)", "int when(int,int,int)", "int house(int,int)",
        "int houseOf(int,int)", "int turn(int,int)", "int as(int,int)", "int gain(int,int)", "int sum(int,int,int)",
        "int best(int,int,int)", "int sunniest(int,int)", "int days(int,int,int,int)", "int exchange(int,int)",
        "int ship(int,int,int)", "int shipOf(int,int)", "int quay(int,int)", "int clear()", "int lies(int,int,int)",
        "int entry(int,int)", "int order(int)", "int waits(int,int)", "int fast(int)", "int off(int,int)",
        "int feed(int,int)", "int wipe()", "int island()", "int sheet(int,int,int)", "long write(int,int,long)",
        "int copy(int,int,int,int,int)", "int lays(int)", "int calendar(int,int,int,int)", "int read(int,int,int,int)",
        "int image()", "int undo()", "int tear()", "int count(int)", "int status(int)",
    };
    private static final String[] BARRED = {
        "throw", "throws", "try", "catch", "synchronized", "assert", "volatile", "transient", "native", "record",
        "instanceof", "->", "::", "Exact", "hashCode", "toString", "getClass", "package",
    };

    private static int passed = 0;
    private static int failed = 0;

    private static void due(String what, boolean holds) {
        if (holds) {
            passed++;
        } else {
            failed++;
            System.out.println(what + ": it isn't so");
        }
    }

    public static void main(String[] args) throws IOException {
        face();
        classes();
        source();
        asTheDocumentTells();
        System.out.println(passed + " passed, " + failed + " failed");
        if (failed != 0) {
            System.exit(1);
        }
    }

    private static String told(Method m) {
        List<String> types = new ArrayList<>();
        for (Class<?> type : m.getParameterTypes()) {
            types.add(type.getSimpleName());
        }
        return m.getReturnType().getSimpleName() + " " + m.getName() + "(" + String.join(",", types) + ")";
    }

    private static void face() {
        Set<String> seen = new TreeSet<>();
        Set<String> publicNames = new HashSet<>();
        for (Method m : TideQuarter.class.getDeclaredMethods()) {
            boolean isPublic = Modifier.isPublic(m.getModifiers());
            due(m.getName() + " is public or private", isPublic || Modifier.isPrivate(m.getModifiers()));
            if (isPublic) {
                seen.add(told(m));
                publicNames.add(m.getName());
            }
        }
        due("the face is the document's: " + seen, seen.equals(new TreeSet<>(List.of(FACE))));
        due("the class is public and final", TideQuarter.class.getModifiers() == (Modifier.PUBLIC | Modifier.FINAL));
        Constructor<?>[] constructors = TideQuarter.class.getDeclaredConstructors();
        due("one public constructor of nothing", constructors.length == 1 && constructors[0].getParameterCount() == 0
            && Modifier.isPublic(constructors[0].getModifiers()));
        for (Field f : TideQuarter.class.getDeclaredFields()) {
            due(f.getName() + " is private", Modifier.isPrivate(f.getModifiers()));
        }
        for (Class<?> c : allClasses()) {
            for (Method m : c.getDeclaredMethods()) {
                due(c.getSimpleName() + "." + m.getName() + " bears a name of its own",
                    c == TideQuarter.class && Modifier.isPublic(m.getModifiers()) || !publicNames.contains(m.getName()));
                due(m.getName() + " takes at most seven", m.getParameterCount() <= 7);
            }
        }
    }

    private static List<Class<?>> allClasses() {
        List<Class<?>> all = new ArrayList<>();
        all.add(TideQuarter.class);
        all.addAll(List.of(TideQuarter.class.getDeclaredClasses()));
        return all;
    }

    private static void classes() {
        List<Class<?>> all = allClasses();
        due("at most twelve classes", all.size() <= 12);
        for (Class<?> c : all) {
            int own = 0;
            for (Field f : c.getDeclaredFields()) {
                if (Modifier.isStatic(f.getModifiers())) {
                    due(f.getName() + ", static, is final", Modifier.isFinal(f.getModifiers()));
                } else {
                    own++;
                }
            }
            due(c.getSimpleName() + " has at most twenty fields", own <= 20);
            due(c.getSimpleName() + " is static", c == TideQuarter.class || Modifier.isStatic(c.getModifiers()));
        }
    }

    private static void source() throws IOException {
        String text = Files.readString(Path.of(PROGRAM));
        String bare = text.replaceAll("(?s)/\\*.*?\\*/", "").replaceAll("//[^\n]*", "").replaceAll("\"[^\"\n]*\"", "\"\"");
        for (String word : BARRED) {
            String pattern = Character.isLetter(word.charAt(0)) ? "\\b" + word + "\\b" : Pattern.quote(word);
            due("no " + word, !Pattern.compile(pattern).matcher(bare).find());
        }
        due("plain signs alone", text.chars().allMatch(c -> c == '\n' || c >= 32 && c < 127));
        Matcher imports = Pattern.compile("(?m)^import (.*);$").matcher(text);
        while (imports.find()) {
            due("import " + imports.group(1), imports.group(1).equals("java.util.Arrays"));
        }
        String[] lines = bare.split("\n");
        boolean inConstructor = false;
        for (int i = 0; i < lines.length; i++) {
            String line = lines[i];
            inConstructor = line.contains("public TideQuarter()") || inConstructor && !line.equals("    }");
            if (line.matches(".*\\bnew\\b.*")) {
                due("all that is made is made in constructors: " + line.trim(), inConstructor || line.contains("final "));
            }
            if (line.matches(" {4,8}[a-z].*\\) \\{") && !line.matches(" *(if|for|while|switch|do)\\b.*")) {
                due("a method has at most sixty lines: " + line.trim(), endOf(lines, i) - i <= 60);
            }
        }
    }

    /** The face's lines stand in the program as in the document, in its order, each below its head. */
    private static void asTheDocumentTells() throws IOException {
        String program = Files.readString(Path.of(PROGRAM));
        String document = Files.readString(Path.of("../shared/DOC.md"));
        int from = document.indexOf("```java");
        String face = document.substring(from, document.indexOf("```", from + 3));
        Matcher line = Pattern.compile("(?m)^ +(public [^;]*);$").matcher(face);
        int place = 0;
        int lines = 0;
        while (line.find()) {
            int at = program.indexOf("\n    " + line.group(1) + " {\n");
            due(line.group(1) + " stands behind the one ahead of it", at > place);
            place = at;
            lines++;
        }
        due("a constructor and all calls", lines == 1 + FACE.length);
        Matcher heads = Pattern.compile("(?m)^Ahead of the calls (.*) the interface says: (---- .*)\\.$").matcher(document);
        int headed = 0;
        while (heads.find()) {
            for (String name : heads.group(1).replace("`", "").split(", ")) {
                int at = Math.max(program.indexOf("public int " + name + "("), program.indexOf("public long " + name + "("));
                int head = program.lastIndexOf("    // ---- ", at);
                due(name + " stands below '" + heads.group(2) + "'", program.startsWith("    // " + heads.group(2) + "\n", head));
                headed++;
            }
        }
        due("each call has a head", headed == FACE.length);
    }

    /** The line that closes what one opens: the first behind it that is as far in. */
    private static int endOf(String[] lines, int from) {
        String close = lines[from].replaceAll("\\S.*", "") + "}";
        int end = from;
        while (end < lines.length && !lines[end].equals(close)) {
            end++;
        }
        return end;
    }
}
