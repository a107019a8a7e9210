import java.lang.reflect.Method;
import java.lang.reflect.Modifier;
import java.nio.file.Files;
import java.nio.file.Path;
import java.util.ArrayList;
import java.util.List;
import java.util.regex.Matcher;
import java.util.regex.Pattern;
import javax.tools.ToolProvider;

/**
 * Runs the Java of README.md: its blocks are made a class of their own, in which each call with an
 * answer behind it is looked at.
 */
public final class ReadmeTest {
    private static final Path README = Path.of("README.md");
    private static final Pattern BLOCK = Pattern.compile("```java\n(.*?)```", Pattern.DOTALL);
    private static final String TEXT = "\"(?:[^\"\\\\]|\\\\.)*\"";
    private static final Pattern ANSWERED =
            Pattern.compile("((?:server\\.\\w+|response)\\(.*\\)); +// (-?\\d+|true|false|" + TEXT + ")(?:: (.*))?");
    private static final Pattern BYTES = Pattern.compile("server\\.(?:type|send)\\((?:\\d, )?(0x[0-9A-F]+), (\\d)\\)");

    public static void main(String[] args) throws Exception {
        List<String> blocks = blocks(Files.readString(README));
        everyCallIsShownWithItsAnswer(blocks);
        Path folder = Path.of(System.getProperty("java.class.path"));
        Path source = folder.resolve("Shown.java");
        Files.writeString(source, classOf(blocks));
        int outcome = ToolProvider.getSystemJavaCompiler()
                .run(null, null, null, "-cp", folder.toString(), "-d", folder.toString(), source.toString());
        Probe.due("compiling the Java of " + README, outcome, 0);
        if (outcome == 0) {
            Class.forName("Shown").getDeclaredMethod("run").invoke(null);
        }
        Probe.end();
    }

    private static List<String> blocks(String readme) {
        List<String> blocks = new ArrayList<>();
        Matcher block = BLOCK.matcher(readme);
        while (block.find()) {
            blocks.add(block.group(1));
        }
        return blocks;
    }

    private static boolean isOfMethods(String block) {
        return block.startsWith("static ");
    }

    private static void everyCallIsShownWithItsAnswer(List<String> blocks) {
        List<String> shown = new ArrayList<>();
        for (String block : blocks) {
            for (String line : block.split("\n")) {
                if (!isOfMethods(block) && line.matches("server\\..*|response\\(.*")) {
                    Probe.due("an answer behind " + line, ANSWERED.matcher(line).matches(), true);
                    shown.add(line.replaceAll("\\(.*", ""));
                }
            }
        }
        for (Method method : StubServer.class.getDeclaredMethods()) {
            if (Modifier.isPublic(method.getModifiers())) {
                Probe.due(method.getName() + " is shown", shown.contains("server." + method.getName()), true);
            }
        }
    }

    private static String classOf(List<String> blocks) {
        StringBuilder methods = new StringBuilder();
        StringBuilder run = new StringBuilder("static void run() {\n");
        for (String block : blocks) {
            if (isOfMethods(block)) {
                methods.append(block);
                continue;
            }
            run.append("{\n");
            for (String line : block.split("\n")) {
                run.append(lookedAt(line)).append('\n');
            }
            run.append("}\n");
        }
        return "final class Shown {\n" + methods + run + "}\n}\n";
    }

    private static String lookedAt(String line) {
        Matcher answered = ANSWERED.matcher(line);
        if (!answered.matches()) {
            return line;
        }
        String call = answered.group(1);
        String looked = "Probe.due(" + quoted(call) + ", " + call + ", " + answered.group(2) + ");";
        return looked + bytesLookedAt(call, answered.group(3));
    }

    /** If the words behind a call of type or send begin with a text, this is what its bytes are. */
    private static String bytesLookedAt(String call, String words) {
        Matcher bytes = BYTES.matcher(call);
        Matcher text = Pattern.compile("(" + TEXT + ").*").matcher(String.valueOf(words));
        if (!bytes.matches() || !text.matches()) {
            return "";
        }
        String told = text.group(1);
        return "Probe.due(" + quoted("the bytes of " + call) + ", " + bytes.group(1) + ", Probe.word(" + told + ", 0, "
                + told + ".length()));Probe.due(" + quoted("how many bytes are in " + call) + ", " + bytes.group(2) + ", " + told
                + ".length());";
    }

    private static String quoted(String text) {
        return "\"" + text.replace("\\", "\\\\").replace("\"", "\\\"") + "\"";
    }
}
