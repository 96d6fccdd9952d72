import java.io.IOException;
import java.lang.reflect.Field;
import java.lang.reflect.Member;
import java.lang.reflect.Method;
import java.lang.reflect.Modifier;
import java.nio.file.Files;
import java.nio.file.Path;
import java.util.ArrayList;
import java.util.List;
import java.util.Set;
import java.util.TreeSet;
import java.util.regex.Matcher;
import java.util.regex.Pattern;

/** What of LANGUAGE.md can be seen from the source and the compiled class. */
public final class LanguageTest {
    private static final String[] FACE = {
        "feed(int,int,int,int,int)int", "end(int)int", "text()int", "fault(int)int", "put(int,int)int",
        "get(int)int", "drop(int)int", "settle()int", "rehash(int,int,int,int)boolean", "batch()boolean",
        "peel(int,int)int", "load(int,int)int", "find(int,int)int", "at(int,int,int)int", "hash(int,boolean)int",
        "chain(int,int)int", "would(int)int", "part(int,int)int", "fits(int)boolean", "over()int",
        "least(int)int", "key(int,boolean)int", "count(int)int", "filled(int)int", "restless()int",
        "which(int)int", "tried(int,int,int)int", "lost(int)int", "image(int)boolean", "again(int)boolean"
    };
    private static final String[] FORBIDDEN = {
        "\\bthrow\\b", "\\bthrows\\b", "\\btry\\b", "\\bcatch\\b", "\\bsynchronized\\b", "\\bassert\\b", "->", "::",
        "\\w+Exact\\b", "\\bhashCode\\b", "\\btoString\\b", "while \\(true\\)", "for \\(;;\\)", "\\bpackage\\b",
        "\\bprotected\\b", "\\bstatic \\{"
    };

    private final Checks checks = new Checks();

    public static void main(String[] args) throws IOException {
        LanguageTest test = new LanguageTest();
        test.face();
        test.nested();
        test.source(Files.readString(Path.of("src/main/java/TwoChoices.java")));
        test.checks.end();
    }

    private void face() {
        Set<String> due = new TreeSet<>(List.of(FACE));
        Set<String> are = new TreeSet<>();
        for (Method m : TwoChoices.class.getDeclaredMethods()) {
            if (!Modifier.isPrivate(m.getModifiers())) {
                are.add(told(m));
            }
        }
        checks.due("the face is " + are, are.equals(due), true);
        for (Field f : TwoChoices.class.getDeclaredFields()) {
            boolean seen = !Modifier.isPrivate(f.getModifiers());
            checks.due("a field that is seen: " + f.getName(), seen, f.getName().equals("NONE"));
        }
        checks.due("one constructor", TwoChoices.class.getDeclaredConstructors().length, 1);
        checks.due("a final class", Modifier.isFinal(TwoChoices.class.getModifiers()), true);
    }

    private static String told(Method m) {
        List<String> kinds = new ArrayList<>();
        for (Class<?> kind : m.getParameterTypes()) {
            kinds.add(kind.getName());
        }
        return m.getName() + "(" + String.join(",", kinds) + ")" + m.getReturnType().getName();
    }

    private void nested() {
        Set<String> names = new TreeSet<>();
        for (String call : FACE) {
            names.add(call.substring(0, call.indexOf('(')));
        }
        Class<?>[] inside = TwoChoices.class.getDeclaredClasses();
        checks.due("some twelve classes", inside.length <= 12, true);
        for (Class<?> c : inside) {
            checks.due(c.getName() + " is static", Modifier.isStatic(c.getModifiers()), true);
            checks.due(c.getName() + " is not public", Modifier.isPublic(c.getModifiers()), false);
            int fields = 0;
            for (Field f : c.getDeclaredFields()) {
                boolean constant = Modifier.isStatic(f.getModifiers());
                fields += constant ? 0 : 1;
                checks.due(f + " is final if static", !constant || Modifier.isFinal(f.getModifiers()), true);
            }
            checks.due(c.getName() + " has some twenty fields", fields <= 20, true);
            for (Method m : c.getDeclaredMethods()) {
                checks.due(m + " bears a name of the face", names.contains(((Member) m).getName()), false);
                checks.due(m + " takes seven at most", m.getParameterCount() <= 7, true);
            }
        }
        for (Method m : TwoChoices.class.getDeclaredMethods()) {
            boolean seen = !Modifier.isPrivate(m.getModifiers());
            checks.due(m + " bears a name of the face", names.contains(m.getName()), seen);
        }
    }

    private void source(String source) {
        String code = source.replaceAll("(?s)/\\*.*?\\*/", "").replaceAll("//[^\n]*", "");
        for (String word : FORBIDDEN) {
            Matcher m = Pattern.compile(word).matcher(code);
            checks.due("the source has " + word, m.find(), false);
        }
        for (char c : source.toCharArray()) {
            if (c > 126) {
                checks.due("a sign beyond 126", c, 32);
            }
        }
        Matcher imports = Pattern.compile("import ([^;]+);").matcher(code);
        while (imports.find()) {
            checks.due("import of " + imports.group(1), imports.group(1).equals("java.util.Arrays"), true);
        }
        int start = 0;
        String[] lines = source.split("\n");
        for (int k = 0; k < lines.length; k++) {
            if (lines[k].matches(" {4,8}[\\w\\[\\] ]+\\(.*\\) \\{")) {
                start = k;
            } else if (lines[k].matches(" {4,8}\\}")) {
                checks.due("a method of over sixty lines ends at " + (k + 1),
                        k - start + 1 <= 60 || !lines[start].contains("("), true);
            }
        }
    }
}
