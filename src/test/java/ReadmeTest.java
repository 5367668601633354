import java.io.IOException;
import java.nio.file.Files;
import java.nio.file.Path;
import java.util.Arrays;
import java.util.Set;
import java.util.TreeSet;
import java.util.regex.Matcher;
import java.util.regex.Pattern;

/** Makes the calls that stand in README.md: each answers what is told there behind it, and no method is left out. */
public final class ReadmeTest {
    private static final Pattern MAKING =
            Pattern.compile("ClothDraft cloth = new ClothDraft\\((\\d+), (\\d+)\\);( +// .*)?");
    private static final Pattern CALL = Pattern.compile("cloth\\.(\\w+)\\(([^)]*)\\); +// (-?\\d+)\\b.*");

    public static void main(String[] args) throws IOException {
        Check check = new Check();
        Set<String> shown = new TreeSet<>();
        ClothDraft cloth = null;
        for (String line : example(Files.readString(Path.of("README.md")))) {
            Matcher making = MAKING.matcher(line);
            Matcher call = CALL.matcher(line);
            if (making.matches()) {
                cloth = new ClothDraft(Integer.parseInt(making.group(1)), Integer.parseInt(making.group(2)));
            } else if (call.matches()) {
                compare(check, cloth, call);
                shown.add(call.group(1));
            } else {
                check.due("a line of the example", line, "");
            }
        }
        Set<String> all = new TreeSet<>();
        Call.ALL.forEach(call -> all.add(call.name()));
        check.due("the methods that README.md shows", shown, all);
        check.finish();
    }

    private static String[] example(String readme) {
        return readme.split("```java\n")[1].split("```")[0].split("\n");
    }

    private static void compare(Check check, ClothDraft cloth, Matcher line) {
        Call call = Call.named(line.group(1));
        int[] arguments = Arrays.stream(line.group(2).split(", ")).filter(one -> !one.isEmpty())
                .mapToInt(Integer::parseInt).toArray();
        check.due("arguments in " + line.group(), arguments.length, call.arguments());
        int[] two = Arrays.copyOf(arguments, 2);
        check.due("README.md: " + call.with(two[0], two[1]), call.on(cloth, two[0], two[1]), Integer.valueOf(line.group(3)));
    }
}
