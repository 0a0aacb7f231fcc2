import java.io.IOException;
import java.lang.reflect.Constructor;
import java.lang.reflect.Field;
import java.lang.reflect.Method;
import java.lang.reflect.Modifier;
import java.nio.file.Files;
import java.nio.file.Path;
import java.util.ArrayList;
import java.util.List;
import java.util.Set;
import java.util.TreeSet;
import java.util.regex.Matcher;
import java.util.regex.Pattern;

/** The rules of LANGUAGE.md, as far as the source's text and the class's members tell them. */
public final class RulesTest {
    private static final Harness H = new Harness();
    private static final Set<String> FACE = Set.of("feed(int,int,int,int,int)", "end(int)", "list()", "fault(int)",
            "rule(int)", "sign(int,int)", "named()", "blocks()", "block(int,int)", "box(int,int)", "face(boolean)",
            "term()", "about(int,int)", "spellings(int)", "best(int)", "bestSign(int,int)", "write()", "written(int)",
            "ways()", "waysOn(int,int)", "read()", "readTerm(int,int)", "spells(int)", "group()", "grouped(int,int)",
            "clear()", "say(int)", "fill(int)", "filled(int,int)", "fills()", "judge()", "value(int,int,int)",
            "valueOn(int,int,int,int)", "count(int)");
    private static final Set<String> LIBRARY = Set.of("Math.max", "Math.min", "Arrays.fill", "System.arraycopy");

    public static void main(String[] args) throws IOException {
        String source = Files.readString(Path.of("src/main/java/ScribeBlocks.java"));
        face();
        inside();
        words(withoutComments(source));
        library(withoutComments(source));
        lengths(source);
        H.finish();
    }

    private static void none(String what, boolean found) {
        H.due(what, found ? 1 : 0, 0);
    }

    private static String signature(Method m) {
        List<String> types = new ArrayList<>();
        for (Class<?> type : m.getParameterTypes()) {
            types.add(type.getName());
        }
        return m.getName() + "(" + String.join(",", types) + ")";
    }

    private static void face() {
        H.part("rule 1");
        Class<ScribeBlocks> c = ScribeBlocks.class;
        none("not final", !Modifier.isFinal(c.getModifiers()) || !Modifier.isPublic(c.getModifiers()));
        Set<String> found = new TreeSet<>();
        for (Method m : c.getDeclaredMethods()) {
            if (!Modifier.isPrivate(m.getModifiers())) {
                found.add(signature(m));
                none(m.getName() + " isn't a plain public int", m.getModifiers() != Modifier.PUBLIC
                        || m.getReturnType() != int.class);
            }
        }
        none("another face: " + found, !found.equals(FACE));
        Constructor<?>[] made = c.getDeclaredConstructors();
        none("constructors", made.length != 1 || made[0].getParameterCount() != 0
                || !Modifier.isPublic(made[0].getModifiers()));
        for (Field f : c.getDeclaredFields()) {
            boolean constant = Set.of("NONE", "RANGE", "FULL", "STATE").contains(f.getName());
            none("field " + f.getName(), Modifier.isPublic(f.getModifiers()) != constant
                    || !constant && !Modifier.isPrivate(f.getModifiers()));
        }
    }

    private static void inside() {
        H.part("rules 1, 2, 5, 8, 11");
        Class<?>[] inner = ScribeBlocks.class.getDeclaredClasses();
        none("classes: " + inner.length, inner.length > 11);
        Set<String> names = new TreeSet<>();
        for (String s : FACE) {
            names.add(s.substring(0, s.indexOf('(')));
        }
        for (Class<?> c : inner) {
            none(c + " isn't static", !Modifier.isStatic(c.getModifiers()) || Modifier.isPublic(c.getModifiers()));
            for (Method m : c.getDeclaredMethods()) {
                none(c + " has " + m.getName(), names.contains(m.getName()));
                none(m + " has many parameters", m.getParameterCount() > 7);
            }
            int fields = 0;
            for (Field f : c.getDeclaredFields()) {
                fields += Modifier.isStatic(f.getModifiers()) ? 0 : 1;
                none(f + " is static and not final",
                        Modifier.isStatic(f.getModifiers()) && !Modifier.isFinal(f.getModifiers()));
            }
            none(c + " has many fields: " + fields, fields > 20);
        }
    }

    private static String withoutComments(String source) {
        return source.replaceAll("(?s)/\\*.*?\\*/", " ").replaceAll("//[^\n]*", " ");
    }

    private static void words(String code) {
        H.part("rules 2, 3, 6, 13");
        String[] banned = {"throw", "throws", "try", "catch", "finally", "synchronized", "assert", "double", "float",
            "goto", "native", "volatile", "transient", "protected", "package", "Object", "Random", "Thread", "File",
            "hashCode", "toString", "interface", "enum", "record", "var", "null", "instanceof"};
        for (String word : banned) {
            none("'" + word + "'", Pattern.compile("\\b" + word + "\\b").matcher(code).find());
        }
        none("lambda", code.contains("->"));
        none("method reference", code.contains("::"));
        none("static block", Pattern.compile("static\\s*\\{").matcher(code).find());
        none("text joined by +", Pattern.compile("\"\\s*\\+|\\+\\s*\"").matcher(code).find());
        none("signs above 127", code.chars().anyMatch(c -> c > 126));
    }

    private static void library(String code) {
        H.part("rule 4");
        Matcher call = Pattern.compile("\\b(Math|Arrays|System|Integer|Long|String|List)\\.(\\w+)\\(").matcher(code);
        while (call.find()) {
            none(call.group(), !LIBRARY.contains(call.group(1) + "." + call.group(2)));
        }
        Matcher imported = Pattern.compile("import ([^;]*);").matcher(code);
        while (imported.find()) {
            none(imported.group(), !imported.group(1).equals("java.util.Arrays"));
        }
    }

    /** A method begins with four or eight blanks and a ( in its line, and ends with as many and }. */
    private static void lengths(String source) {
        H.part("rule 11");
        String[] lines = source.split("\n");
        int methods = 0;
        for (int i = 0; i < lines.length; i++) {
            Matcher head = Pattern.compile("^( {4}| {8})[a-z].*\\(.*\\) \\{$").matcher(lines[i]);
            if (!head.matches()) {
                continue;
            }
            int end = i;
            while (!lines[end].equals(head.group(1) + "}")) {
                end++;
            }
            methods++;
            none(lines[i] + " is long", end - i + 1 > 60);
        }
        none("no methods", methods < 100);
    }
}
