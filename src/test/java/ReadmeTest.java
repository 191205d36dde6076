import java.io.IOException;
import java.lang.reflect.Method;
import java.lang.reflect.Modifier;
import java.nio.file.Files;
import java.nio.file.Path;
import java.util.ArrayList;
import java.util.List;
import java.util.concurrent.TimeUnit;
import java.util.regex.Matcher;
import java.util.regex.Pattern;
import java.util.stream.Stream;

/** README.md: its examples and commands run as they stand, and answer what it says. */
public final class ReadmeTest {
    private static final Checks C = new Checks();
    private static final Pattern BLOCK = Pattern.compile("^```(\\w*)\\n(.*?)^```$", Pattern.MULTILINE | Pattern.DOTALL);
    private static final Pattern CLASS = Pattern.compile("public final class (\\w+)");
    private static final Pattern SAID = Pattern.compile("// (-?\\w+)(:.*)?$");
    private static final Path EXAMPLES = Path.of("src/example/java");

    public static void main(String[] args) throws IOException, InterruptedException {
        String page = Files.readString(Path.of("README.md"));
        List<String> shown = new ArrayList<>();
        StringBuilder code = new StringBuilder();
        String example = null;
        for (Matcher block = BLOCK.matcher(page); block.find(); ) {
            String body = block.group(2);
            if (block.group(1).equals("java")) {
                example = body;
                code.append(body);
                shown.add(isAFile(body));
            } else {
                C.due("a block is java or sh: " + body, block.group(1).equals("sh"), true);
                runs(body, example);
                example = null;
            }
        }
        C.due("an example without a command", example == null, true);
        C.due("files of examples", names(EXAMPLES, ".java").equals(shown.stream().sorted().toList()), true);
        callsAreShown(page, code.toString());
        testsAreNamed(page);
        C.finish();
    }

    /** An example on the page is letter by letter a file, so that the command under it runs just that. */
    private static String isAFile(String body) throws IOException {
        Matcher name = CLASS.matcher(body);
        C.due("an example is a class: " + body, name.find(), true);
        Path file = EXAMPLES.resolve(name.group(1) + ".java");
        C.due(file + " is as on the page", Files.exists(file) && Files.readString(file).equals(body), true);
        return name.group(1);
    }

    private static void runs(String command, String example) throws IOException, InterruptedException {
        if (command.equals(".ci/run\n")) {
            C.due(".ci/run may be run", Files.isExecutable(Path.of(".ci/run")), true);
            return;
        }
        Process process = new ProcessBuilder("bash", "-c", command).redirectErrorStream(true).start();
        String out = new String(process.getInputStream().readAllBytes());
        C.due(command + " ends", process.waitFor(60, TimeUnit.SECONDS), true);
        C.due(command + out, process.exitValue(), 0);
        if (example != null) {
            C.due(command + " prints what is said", out, said(example));
        }
    }

    private static String said(String example) {
        StringBuilder lines = new StringBuilder();
        for (String line : example.split("\n")) {
            if (line.contains("System.out.println(")) {
                Matcher answer = SAID.matcher(line);
                lines.append(answer.find() ? answer.group(1) : "nothing is said of" + line).append('\n');
            }
        }
        return lines.toString();
    }

    private static void callsAreShown(String page, String code) {
        for (Method method : DeskRings.class.getDeclaredMethods()) {
            if (Modifier.isPublic(method.getModifiers())) {
                String call = method.getName() + "(";
                C.due("the page has `" + call, page.contains("`" + call), true);
                C.due("an example has x." + call, code.contains("x." + call), true);
            }
        }
    }

    private static void testsAreNamed(String page) throws IOException {
        for (String name : names(Path.of("src/test/java"), "Test.java")) {
            C.due("the page has " + name, page.contains("| " + name + "Test |"), true);
        }
        for (Matcher named = Pattern.compile("^\\| (\\w+Test) \\|", Pattern.MULTILINE).matcher(page); named.find(); ) {
            Path file = Path.of("src/test/java", named.group(1) + ".java");
            C.due(file + ", which the page has, is there", Files.exists(file), true);
        }
    }

    private static List<String> names(Path folder, String ending) throws IOException {
        try (Stream<Path> files = Files.list(folder)) {
            return files.map(file -> file.getFileName().toString()).filter(name -> name.endsWith(ending))
                    .map(name -> name.substring(0, name.length() - ending.length())).sorted().toList();
        }
    }
}
