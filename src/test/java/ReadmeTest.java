import java.io.IOException;
import java.lang.reflect.Method;
import java.lang.reflect.Modifier;
import java.nio.file.Files;
import java.nio.file.Path;
import java.util.regex.Matcher;
import java.util.regex.Pattern;

/** The runs of calls that README.md shows answer what it says, and it names every call of the face. */
public final class ReadmeTest {
    private static final Pattern CALL = Pattern.compile("vote\\.(\\w+)\\(([^)]*)\\);\\s+// (-?\\d+|true|false): .*");
    private static final Pattern TELL = Pattern.compile("tell\\(vote, \"([^\"]*)\"\\);");

    private final Checks checks = new Checks();
    private BuoyVote vote;
    private int shown;

    public static void main(String[] args) throws Exception {
        String page = Files.readString(Path.of("README.md"));
        ReadmeTest test = new ReadmeTest();
        test.follow(page);
        test.lookForCalls(page);
        test.checks.finish();
    }

    private void follow(String page) throws Exception {
        for (String line : page.split("\n")) {
            Matcher call = CALL.matcher(line);
            Matcher tell = TELL.matcher(line);
            if (line.equals("BuoyVote vote = new BuoyVote();")) {
                vote = new BuoyVote();
            } else if (tell.matches()) {
                Checks.tape(vote, tell.group(1));
            } else if (call.matches()) {
                shown++;
                checks.due(line + " as shown", answer(call.group(1), call.group(2)).equals(call.group(3)), true);
            } else {
                checks.due("a line with a call that is not followed: " + line, line.startsWith("vote."), false);
            }
        }
        checks.due("calls are shown", shown > 0, true);
    }

    private String answer(String name, String written) throws Exception {
        String[] words = written.isEmpty() ? new String[0] : written.split(", ");
        for (Method method : BuoyVote.class.getDeclaredMethods()) {
            if (method.getName().equals(name) && method.getParameterCount() == words.length) {
                Object[] arguments = new Object[words.length];
                for (int i = 0; i < words.length; i++) {
                    arguments[i] = Long.decode(words[i]).intValue();
                }
                return String.valueOf(method.invoke(vote, arguments));
            }
        }
        return "no such call";
    }

    private void lookForCalls(String page) throws IOException {
        String table = page.substring(page.indexOf("### The calls"), page.indexOf("## How to run its tests"));
        for (Method method : BuoyVote.class.getDeclaredMethods()) {
            if (Modifier.isPublic(method.getModifiers())) {
                checks.due(method.getName() + " is named", table.contains("`" + method.getName() + "`"), true);
            }
        }
    }
}
