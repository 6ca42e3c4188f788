import java.lang.reflect.Field;
import java.lang.reflect.Method;
import java.lang.reflect.Modifier;
import java.nio.file.Files;
import java.nio.file.Path;
import java.util.ArrayList;
import java.util.List;
import java.util.Set;
import java.util.TreeSet;
import java.util.regex.Matcher;
import java.util.regex.Pattern;

/** Rules of LANGUAGE.md that a look at the source can tell; it is run from the project's root. */
public final class LanguageTest {
    public static void main(String[] args) throws Exception {
        String source = Files.readString(Path.of("src/main/java/PromisesKept.java"));
        String code = source.replaceAll("(?s)/\\*.*?\\*/", "").replaceAll("//[^\n]*", "");
        String[] never = {"throw", "throws", "try", "catch", "synchronized", "assert", "import", "package", "protected",
            "double", "float", "Object", "random", "currentTimeMillis", "nanoTime", "Thread", "hashCode", "toString"};
        for (String word : never) {
            Due.is("uses of " + word, times("\\b" + word + "\\b", code), 0);
        }
        Due.is("lambdas and method references", times("->|::", code), 0);
        Due.is("static blocks", times("static\\s*\\{", code), 0);
        Due.is("static fields that are not final", times("static\\s+(?!final)[\\w\\[\\]]+\\s+\\w+\\s*[=;]", code), 0);
        Due.is("inner classes that are not static", times("(?<!static )(?<!static final )(?<!public final )class ", code), 0);
        Due.is("more than twelve classes", times("\\bclass ", code) > 12 ? 1 : 0, 0);
        Due.is("signs that are not plain", times("[^\\x0a\\x20-\\x7e]", source), 0);
        Due.is("methods over sixty lines", longMethods(source), 0);
        Due.is("calls of the library that rule 4 does not list", times(
            "\\b(?!Math\\.(?:min|max|abs)\\(|Integer\\.bitCount\\(|System\\.arraycopy\\()[A-Z]\\w*[a-z]\\w*\\.\\w+\\(", code), 0);
        namesAndParameters();
        Due.end();
    }

    /** Rule 1: no private method bears the name of a public one; rule 11: seven parameters, some twenty fields. */
    private static void namesAndParameters() {
        Set<String> face = new TreeSet<>();
        for (Method m : PromisesKept.class.getMethods()) {
            face.add(m.getName());
        }
        List<Class<?>> classes = new ArrayList<>(List.of(PromisesKept.class.getDeclaredClasses()));
        classes.add(PromisesKept.class);
        for (Class<?> one : classes) {
            int fields = 0;
            for (Field f : one.getDeclaredFields()) {
                fields += Modifier.isStatic(f.getModifiers()) ? 0 : 1;
            }
            Due.is("more than twenty fields in " + one, fields > 20 ? 1 : 0, 0);
            for (Method m : one.getDeclaredMethods()) {
                boolean ofTheFace = one == PromisesKept.class && Modifier.isPublic(m.getModifiers());
                Due.is("a public name on " + m, !ofTheFace && face.contains(m.getName()) ? 1 : 0, 0);
                Due.is("over seven parameters in " + m, m.getParameterCount() > 7 ? 1 : 0, 0);
            }
        }
    }

    private static int times(String pattern, String text) {
        Matcher m = Pattern.compile(pattern).matcher(text);
        int many = 0;
        while (m.find()) {
            many++;
        }
        return many;
    }

    /** A method ends with a brace as far in as its first line. */
    private static int longMethods(String source) {
        Matcher m = Pattern.compile("(?m)^( {4}| {8})(?!private static final class)[^ \n}][^\n]*\\{\n((?:.*\n)*?)\\1\\}").matcher(source);
        int many = 0;
        while (m.find()) {
            many += m.group(2).split("\n").length > 60 ? 1 : 0;
        }
        return many;
    }
}
