import java.nio.file.Files;
import java.nio.file.Path;
import java.util.ArrayList;
import java.util.List;
import java.util.regex.Matcher;
import java.util.regex.Pattern;

/** README.md's example: each call that has a number behind it answers that number, in the order told. */
public final class ReadmeTest extends Checks {
    private static final Pattern TEXT = Pattern.compile("for \\(char letter : \"(.*)\"\\.toCharArray");
    private static final Pattern CALL = Pattern.compile("(?m)^x\\.(\\w+)\\(([\\d, ]*)\\);\\s*// (-?\\d+)");

    private static int call(TenseLines x, String name, List<Integer> numbers) throws Exception {
        Class<?>[] types = new Class<?>[numbers.size()];
        java.util.Arrays.fill(types, int.class);
        return (int) TenseLines.class.getMethod(name, types).invoke(x, numbers.toArray());
    }

    public static void main(String[] args) throws Exception {
        String readme = Files.readString(Path.of("README.md"));
        Matcher text = TEXT.matcher(readme);
        if (!text.find()) {
            report("README.md has no text to read");
            finish("");
        }
        TenseLines x = new TenseLines();
        type(x, text.group(1));
        Matcher calls = CALL.matcher(readme);
        int answers = 0;
        while (calls.find()) {
            List<Integer> numbers = new ArrayList<>();
            for (String number : calls.group(2).isEmpty() ? new String[0] : calls.group(2).split(", ")) {
                numbers.add(Integer.valueOf(number));
            }
            due("README.md: " + calls.group(), call(x, calls.group(1), numbers), Integer.parseInt(calls.group(3)));
            answers++;
        }
        if (answers < 10) {
            report("README.md tells only " + answers + " answers");
        }
        finish("README.md's example answers as it says");
    }
}
