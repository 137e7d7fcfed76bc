import java.io.IOException;
import java.nio.charset.StandardCharsets;
import java.nio.file.Files;
import java.nio.file.Path;
import java.util.regex.Matcher;
import java.util.regex.Pattern;

/** README.md: its example, taken out and run as it stands there, prints what README.md says. */
final class ReadmeTest {
    private static final String TEXT = read(Path.of("README.md"));

    public static void main(String[] args) throws IOException, InterruptedException {
        Path folder = Files.createTempDirectory("readme");
        Path example = Files.writeString(folder.resolve("Example.java"), block("java"));
        String printed = run(example);
        Files.delete(example);
        Files.delete(folder);
        if (!printed.equals(block("text"))) {
            Due.tell("the example of README.md printed:\n" + printed + "and not:\n" + block("text"));
        }
        everyCallIsNamed();
        Due.end();
    }

    private static String read(Path file) {
        try {
            return Files.readString(file);
        } catch (IOException e) {
            throw new IllegalStateException("no " + file.toAbsolutePath(), e);
        }
    }

    private static String block(String language) {
        Matcher block = Pattern.compile("```" + language + "\n(.*?)```", Pattern.DOTALL).matcher(TEXT);
        if (!block.find()) {
            throw new IllegalStateException("README.md has no block of " + language);
        }
        return block.group(1);
    }

    private static String run(Path example) throws IOException, InterruptedException {
        Process process = new ProcessBuilder(Path.of(System.getProperty("java.home"), "bin", "java").toString(),
                "-cp", System.getProperty("java.class.path"), example.toString()).redirectErrorStream(true).start();
        String printed = new String(process.getInputStream().readAllBytes(), StandardCharsets.UTF_8);
        Due.is("the exit code of README.md's example", 0, process.waitFor());
        return printed;
    }

    private static void everyCallIsNamed() {
        for (java.lang.reflect.Method method : TravellingPictures.class.getMethods()) {
            boolean own = method.getDeclaringClass() == TravellingPictures.class;
            if (own && !TEXT.contains("`" + method.getName() + "(")) {
                Due.tell("README.md does not say what " + method.getName() + " is for");
            }
        }
    }
}
