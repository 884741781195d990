import java.lang.reflect.Constructor;
import java.lang.reflect.Field;
import java.lang.reflect.Method;
import java.lang.reflect.Modifier;
import java.nio.file.Files;
import java.nio.file.Path;
import java.util.ArrayList;
import java.util.Collections;
import java.util.HashSet;
import java.util.List;
import java.util.Set;
import java.util.TreeSet;
import java.util.regex.Matcher;
import java.util.regex.Pattern;

/** The face of the document, and rules of LANGUAGE.md that a look at the source can tell. */
public final class FaceTest {
    private static final String[] FACE = {
        "int thing(int,int,int,int)", "int colour(int,int,int)", "int word(int,int,int)", "int row(int,int,int)",
        "int unrow(int,int)", "int place(int,int,int,int)", "int line(int,int,int)",
        "int copy(int,int,int,int,int,int,int)", "int swap(int,int,int)", "int twin(int,int)", "int drop(int)",
        "int told(int,int,int)", "int count(int,int)", "int undo()", "int split(int)", "int mark(int)",
        "int heapOf(int)", "int name(int)", "int nameAt(int)", "int order(int)", "int nodes()", "int same(int,int)",
        "int unlike(int,int)", "int why(int)", "long turnings(int)", "int chain(int,int)", "int where(int,int,int)",
        "int orbit(int,int)", "int by(int)", "int makers(int)", "int maker(int,int)", "int then(int)",
        "int list(int,int)", "int listed(int,int)",
    };

    public static void main(String[] args) throws Exception {
        Check check = new Check();
        face(check);
        constants(check);
        String source = Files.readString(Path.of("src/main/java/SameBench.java"));
        sizes(check);
        methodLengths(check, source);
        words(check, source);
        limitOfLeaves(check, source);
        check.end("FaceTest");
    }

    private static void face(Check check) {
        Set<String> seen = new TreeSet<>();
        Set<String> publicNames = new HashSet<>();
        for (Method method : SameBench.class.getDeclaredMethods()) {
            if (Modifier.isPrivate(method.getModifiers())) continue;
            seen.add(told(method));
            publicNames.add(method.getName());
        }
        check.same("the methods that are not private", seen, new TreeSet<>(List.of(FACE)));
        for (Constructor<?> constructor : SameBench.class.getDeclaredConstructors()) {
            check.due("constructor's arguments", constructor.getParameterCount(), 0);
            check.due("constructor is public", Modifier.isPublic(constructor.getModifiers()) ? 1 : 0, 1);
        }
        for (Class<?> inside : SameBench.class.getDeclaredClasses()) {
            check.due(inside + " is static", Modifier.isStatic(inside.getModifiers()) ? 1 : 0, 1);
            check.due(inside + " is public", Modifier.isPublic(inside.getModifiers()) ? 1 : 0, 0);
            for (Method method : inside.getDeclaredMethods()) {
                check.due(method + " bears a public name", publicNames.contains(method.getName()) ? 1 : 0, 0);
            }
        }
        check.due("more than 12 classes", SameBench.class.getDeclaredClasses().length + 1 > 12 ? 1 : 0, 0);
        check.due("class is final", Modifier.isFinal(SameBench.class.getModifiers()) ? 1 : 0, 1);
    }

    private static String told(Method method) {
        List<String> arguments = new ArrayList<>();
        for (Class<?> argument : method.getParameterTypes()) arguments.add(argument.getName());
        String access = Modifier.isPublic(method.getModifiers()) ? "" : "not public ";
        return access + method.getReturnType().getName() + " " + method.getName() + "(" + String.join(",", arguments) + ")";
    }

    private static void constants(Check check) {
        check.due("BAD", SameBench.BAD, -1);
        check.due("NOT", SameBench.NOT, -2);
        check.due("FULL", SameBench.FULL, -3);
        List<String> names = new ArrayList<>();
        for (Field field : SameBench.class.getDeclaredFields()) {
            int how = field.getModifiers();
            if (!Modifier.isPrivate(how)) names.add(field.getName());
            if (Modifier.isStatic(how)) check.due(field + " is final", Modifier.isFinal(how) ? 1 : 0, 1);
        }
        Collections.sort(names);
        check.same("the fields that are not private", names, List.of("BAD", "FULL", "NOT"));
    }

    /** Rule 11: at most seven parameters, and some twenty fields beside the constants. */
    private static void sizes(Check check) {
        List<Class<?>> classes = new ArrayList<>(List.of(SameBench.class.getDeclaredClasses()));
        classes.add(SameBench.class);
        for (Class<?> one : classes) {
            int fields = 0;
            for (Field field : one.getDeclaredFields()) if (!Modifier.isStatic(field.getModifiers())) fields++;
            check.due("more than 20 fields: " + one, fields > 20 ? 1 : 0, 0);
            for (Method method : one.getDeclaredMethods()) {
                check.due("more than 7 parameters: " + method, method.getParameterCount() > 7 ? 1 : 0, 0);
            }
        }
    }

    /** Rule 11: a method ends with the brace that stands under its first sign. */
    private static void methodLengths(Check check, String source) {
        String[] lines = source.split("\n");
        int methods = 0;
        for (int k = 0; k < lines.length; k++) {
            if (!isMethodHead(lines[k])) continue;
            String end = lines[k].replaceAll("\\S.*", "") + "}";
            int last = k;
            while (last < lines.length - 1 && !lines[last].equals(end)) last++;
            check.due("more than 60 lines: " + lines[k].trim(), last - k + 1 > 60 ? 1 : 0, 0);
            methods++;
        }
        check.due("there are methods", methods > 34 ? 1 : 0, 1);
    }

    private static boolean isMethodHead(String line) {
        if (line.matches(" +(if|for|while|switch) .*")) return false;
        return line.matches(" +(public |private |static )*\\w+(\\[\\])? ?\\w*\\(.*\\) \\{");
    }

    /** No net was found with 2521 to 3239 leaves: that the limit is 3000, only the source tells. */
    private static void limitOfLeaves(Check check, String source) {
        check.due("MOST_LEAVES is 3000", source.contains(" MOST_LEAVES = 3000;") ? 1 : 0, 1);
        check.due("3000 are not too many", source.contains("isThere = name.leaves <= MOST_LEAVES;") ? 1 : 0, 1);
    }

    /** Rule 6, 4 and 13, as far as words tell. */
    private static void words(Check check, String source) {
        String code = source.replaceAll("(?s)/\\*.*?\\*/", "").replaceAll("//[^\n]*", "");
        Matcher found = Pattern.compile("\\b(throw|throws|try|catch|finally|synchronized|assert|import|package|Object"
            + "|equals|hashCode|toString|Random|Thread|String|->|::)\\b").matcher(code);
        while (found.find()) check.same("a word that LANGUAGE.md rules out", found.group(), "none");
        for (String library : List.of("System.", "Math.", "Integer.", "Arrays.", "Long.")) {
            Matcher use = Pattern.compile("\\b" + Pattern.quote(library) + "(\\w+)").matcher(code);
            while (use.find()) {
                boolean listed = List.of("arraycopy", "max", "min", "bitCount").contains(use.group(1));
                check.due(use.group() + " is listed", listed ? 1 : 0, 1);
            }
        }
        for (String line : code.split("\n")) check.due("too long: " + line, line.length() > 130 ? 1 : 0, 0);
    }
}
