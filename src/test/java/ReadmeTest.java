import java.io.IOException;
import java.nio.file.Files;
import java.nio.file.Path;
import java.util.ArrayList;
import java.util.List;
import java.util.regex.Matcher;
import java.util.regex.Pattern;

/** README.md: that the run in it answers what it says there, and that each call is named. */
final class ReadmeTest extends Script {
    public static void main(String[] args) throws IOException {
        String text = Files.readString(Path.of("README.md"));
        theRun(text);
        eachCall(text);
        end();
    }

    static void theRun(String text) {
        List<String> lines = new ArrayList<>();
        Matcher fed = Pattern.compile("\"(.*)\"\\.toCharArray").matcher(text);
        is(1, fed.find() ? 1 : 0, "a text that is fed");
        Matcher call = Pattern.compile("(?m)^x\\.(\\w+\\(.*\\)); *// (-?\\d+)").matcher(text);
        while (call.find()) {
            lines.add(call.group(1) + " = " + call.group(2));
        }
        is(1, lines.size() > 10 ? 1 : 0, "calls in README.md: " + lines.size());
        run("README.md", "'" + fed.group(1) + "'", String.join(";", lines));
    }

    static void eachCall(String text) {
        String table = text.substring(text.indexOf("| Calls | For |"), text.indexOf("## How a refusal"));
        for (String name : FaceTest.names()) {
            is(1, table.contains("`" + name + "`") ? 1 : 0, "README.md says what it is for: " + name);
        }
    }
}
