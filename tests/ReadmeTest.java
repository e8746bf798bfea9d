import java.io.IOException;
import java.lang.reflect.Method;
import java.nio.file.Files;
import java.nio.file.Path;
import java.util.ArrayList;
import java.util.List;
import java.util.regex.Matcher;
import java.util.regex.Pattern;

/** README.md: its example answers what it says, and its table names each call of the face. */
public final class ReadmeTest {
    private static final Pattern FED = Pattern.compile("for \\(char c : \"([^\"]*)\"\\.toCharArray\\(\\)\\) \\{");
    private static final Pattern ASKED = Pattern.compile("x\\.(\\w+\\([^)]*\\)); +// (-?[0-9]+)\\b.*");

    public static void main(String[] args) throws IOException {
        String readme = Files.readString(Path.of("README.md"));
        example(readme);
        for (Method m : SomebodyWill.class.getDeclaredMethods()) {
            if (java.lang.reflect.Modifier.isPublic(m.getModifiers())) {
                Due.is(m.getName() + " is in the table", readme.contains("`" + m.getName() + "` ") ? 1 : 0, 1);
            }
        }
        Due.end();
    }

    private static void example(String readme) {
        String opening = "```java\n";
        int from = readme.indexOf(opening) + opening.length();
        List<String> calls = new ArrayList<>();
        int asked = 0;
        for (String line : readme.substring(from, readme.indexOf("```", from)).split("\n")) {
            Matcher fed = FED.matcher(line);
            Matcher call = ASKED.matcher(line);
            if (fed.matches()) {
                calls.add("tape '" + fed.group(1) + "'");
            } else if (call.matches()) {
                calls.add(call.group(1) + " = " + refusal(call.group(2)));
                asked++;
            } else {
                boolean isFrame = List.of("SomebodyWill x = new SomebodyWill();", "    x.feed(c, 1);", "}").contains(line);
                Due.is("can be told: " + line, isFrame ? 1 : 0, 1);
            }
        }
        Due.is("the example has calls with answers", asked > 9 ? 1 : 0, 1);
        Script.run("README.md", calls);
    }

    /** As a Script has it, which then looks at how many there were, too. */
    private static String refusal(String answer) {
        switch (answer) {
            case "-2":
            case "-1000002":
                return "BAD";
            case "-3":
                return "OTHER";
            case "-5":
                return "STATE";
            default:
                return answer;
        }
    }
}
