import java.nio.file.Files;
import java.nio.file.Path;
import java.util.regex.Matcher;
import java.util.regex.Pattern;

/** The calls that README.md shows answer what it tells; it is run from the project's root. */
public final class ReadmeTest {
    private static final Pattern TYPED = Pattern.compile("for \\(char c : \"([^\"]*)\"\\.toCharArray\\(\\)\\) \\{");
    private static final Pattern CALL = Pattern.compile("x\\.(\\w+)\\(([-0-9, ]*)\\); +// (-?[0-9]+)(:.*)?");

    public static void main(String[] args) throws Exception {
        PromisesKept x = new PromisesKept();
        int shown = 0;
        for (String line : Files.readString(Path.of("README.md")).split("\n")) {
            Matcher typed = TYPED.matcher(line);
            Matcher call = CALL.matcher(line);
            if (typed.matches()) {
                Due.type(x, typed.group(1));
            } else if (call.matches()) {
                String numbers = call.group(2).replace(",", "");
                long answer = Calls.answer(x, (call.group(1) + " " + numbers).trim());
                Due.is("README.md: " + line, answer, Long.parseLong(call.group(3)));
                shown++;
            } else {
                Due.is("README.md: a call that cannot be read: " + line, line.startsWith("x.") ? 1 : 0, 0);
            }
        }
        Due.is("README.md shows 35 calls or more", shown >= 35 ? 1 : 0, 1);
        Due.end();
    }
}
