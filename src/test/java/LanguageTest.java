import java.io.IOException;
import java.lang.reflect.Field;
import java.lang.reflect.Method;
import java.lang.reflect.Modifier;
import java.nio.file.Files;
import java.nio.file.Path;
import java.util.Arrays;
import java.util.Set;
import java.util.TreeSet;
import java.util.regex.Matcher;
import java.util.regex.Pattern;

/** The rules of LANGUAGE.md that can be seen in the source or in the class itself. */
public final class LanguageTest {
    private static final Path SOURCE = Path.of("src/main/java/PlaneMaps.java");

    private static final String[] FACE = {
        "alike(int,int,int):int", "back(int,int,int):int", "change(int,int,int,int):int", "code(int,int):int",
        "count(int,int):long", "dart(int,int,int):int", "degree(int,int,int):int", "distance(int,int,int):int",
        "end(int):boolean", "fault(int):int", "feed(int,int,int,int,int):int", "halve(int,int):int", "look(int):int",
        "map(int):int", "of(int,int):int", "rank(int):long", "redouble(int,int):int", "ring(int,int,int):int",
        "rootings(int):int", "shape(int,int,int):int", "shown(int,int):int", "tree(int,int,long):boolean",
        "trees(int):long", "turn(int,int,int):int",
    };

    private static final String[] FORBIDDEN = {
        "\\bthrows?\\b", "\\btry\\b", "\\bcatch\\b", "\\bfinally\\b", "\\bsynchronized\\b", "\\bassert\\b", "->", "::",
        "\\bSystem\\.(?!arraycopy)", "\\bThread\\b", "\\bRandom\\b", "Exact\\b", "\\bpackage\\b", "\\bprotected\\b",
        "\\bequals\\b", "\\bhashCode\\b", "\\btoString\\b", "\\bstatic\\s*\\{", "\\bvar\\b", "@", "\\bdouble\\b", "\\bfloat\\b",
    };

    private static final Check CHECK = new Check("language");

    public static void main(String[] args) throws IOException {
        face();
        classes();
        String source = Files.readString(SOURCE);
        CHECK.due("signs of the source are 1 to 127", source.chars().allMatch(c -> c > 0 && c < 128), true);
        String bare = withoutComments(source);
        words(bare);
        methods(bare);
        CHECK.end();
    }

    private static void face() {
        Class<?> type = PlaneMaps.class;
        CHECK.due("public and final", type.getModifiers(), Modifier.PUBLIC | Modifier.FINAL);
        CHECK.due("one constructor", type.getDeclaredConstructors().length, 1);
        CHECK.due("a public constructor", Modifier.isPublic(type.getDeclaredConstructors()[0].getModifiers()), true);
        Set<String> seen = new TreeSet<>();
        Set<String> names = new TreeSet<>();
        for (Method method : type.getDeclaredMethods()) {
            if (!Modifier.isPrivate(method.getModifiers())) {
                seen.add(told(method));
                names.add(method.getName());
                CHECK.due(method + " is public alone", method.getModifiers(), Modifier.PUBLIC);
            }
        }
        CHECK.due("face " + seen, seen.equals(new TreeSet<>(Arrays.asList(FACE))), true);
        for (Field field : type.getDeclaredFields()) {
            boolean hidden = Modifier.isPrivate(field.getModifiers());
            CHECK.due(field + " is private", hidden, !field.getName().equals("NONE"));
        }
        checkNames(type, names, true);
        for (Class<?> inside : type.getDeclaredClasses()) {
            checkNames(inside, names, false);
        }
    }

    private static void checkNames(Class<?> type, Set<String> names, boolean publicOnesToo) {
        for (Method method : type.getDeclaredMethods()) {
            boolean own = publicOnesToo && Modifier.isPublic(method.getModifiers());
            CHECK.due(method + " bears the name of a public one", !own && names.contains(method.getName()), false);
        }
    }

    private static String told(Method method) {
        StringBuilder text = new StringBuilder(method.getName()).append('(');
        for (Class<?> type : method.getParameterTypes()) {
            text.append(text.charAt(text.length() - 1) == '(' ? "" : ",").append(type.getName());
        }
        return text.append("):").append(method.getReturnType().getName()).toString();
    }

    private static void classes() {
        Class<?>[] inside = PlaneMaps.class.getDeclaredClasses();
        CHECK.due("at most eleven classes inside", inside.length <= 11, true);
        checkClass(PlaneMaps.class);
        for (Class<?> type : inside) {
            CHECK.due(type + " is static", Modifier.isStatic(type.getModifiers()), true);
            CHECK.due(type + " is not public", Modifier.isPublic(type.getModifiers()), false);
            checkClass(type);
        }
    }

    private static void checkClass(Class<?> type) {
        int fields = 0;
        for (Field field : type.getDeclaredFields()) {
            boolean isStatic = Modifier.isStatic(field.getModifiers());
            fields += isStatic ? 0 : 1;
            CHECK.due(field + " is final if static", !isStatic || Modifier.isFinal(field.getModifiers()), true);
        }
        CHECK.due(type + " has at most twenty fields", fields <= 20, true);
        for (Method method : type.getDeclaredMethods()) {
            CHECK.due(method + " takes at most seven", method.getParameterCount() <= 7, true);
        }
    }

    private static String withoutComments(String source) {
        Matcher comment = Pattern.compile("/\\*.*?\\*/|//[^\n]*", Pattern.DOTALL).matcher(source);
        return comment.replaceAll(found -> found.group().replaceAll("[^\n]", ""));
    }

    private static void words(String bare) {
        for (String word : FORBIDDEN) {
            CHECK.due("the source has " + word, Pattern.compile(word).matcher(bare).find(), false);
        }
        Matcher imported = Pattern.compile("import ([^;]*);").matcher(bare);
        while (imported.find()) {
            CHECK.due("import " + imported.group(1), imported.group(1).equals("java.util.Arrays"), true);
        }
        Matcher called = Pattern.compile("\\b(Arrays|Math|Integer|Long)\\.(\\w+)").matcher(bare);
        while (called.find()) {
            boolean known = Set.of("fill", "max", "MAX_VALUE").contains(called.group(2));
            CHECK.due("library's " + called.group(), known, true);
        }
    }

    /** A method's head stands on a line that ends with an opening brace behind a closing bracket. */
    private static void methods(String bare) {
        String[] lines = bare.split("\n", -1);
        for (int i = 0; i < lines.length; i++) {
            if (lines[i].matches(" {4}( {4})?\\w[^=;]*\\) \\{") && !lines[i].matches(".*\\b(if|for|while|switch)\\b.*")) {
                String close = lines[i].startsWith("        ") ? "        }" : "    }";
                int last = i;
                while (last < lines.length && !lines[last].equals(close)) {
                    last++;
                }
                CHECK.due("lines of" + lines[i] + " are at most sixty", last - i + 1 <= 60, true);
            }
        }
    }
}
