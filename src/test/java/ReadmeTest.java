import java.io.IOException;
import java.lang.reflect.Method;
import java.lang.reflect.Modifier;
import java.nio.file.Files;
import java.nio.file.Path;
import java.util.Comparator;
import java.util.List;

/** The example of README.md has every call and runs as it stands there; run from the project's root. */
public final class ReadmeTest {
    private static final Path SOURCE = Path.of("src/main/java/BuildingJury.java");

    public static void main(String[] args) throws IOException, InterruptedException {
        String readme = Files.readString(Path.of("README.md"));
        String example = block(readme, "java");
        everyCall(example);
        Path folder = Files.createTempDirectory("readme");
        try {
            Files.createDirectories(folder.resolve(SOURCE).getParent());
            Files.copy(SOURCE, folder.resolve(SOURCE));
            Files.writeString(folder.resolve("Example.java"), example);
            same(printed(folder, block(readme, "sh")), block(readme, "text"));
        } finally {
            remove(folder);
        }
        Due.end();
    }

    /** What stands in the first block of a kind. */
    private static String block(String readme, String kind) {
        String fence = "```" + kind + "\n";
        int begin = readme.indexOf(fence) + fence.length();
        int end = readme.indexOf("```", begin);
        Due.due("README.md has a block of " + kind, readme.contains(fence) && end > begin, true);
        return end > begin ? readme.substring(begin, end) : "";
    }

    private static void everyCall(String example) {
        for (Method call : BuildingJury.class.getDeclaredMethods()) {
            if (Modifier.isPublic(call.getModifiers())) {
                Due.due("the example calls " + call.getName(), example.contains("jury." + call.getName() + "("), true);
            }
        }
    }

    private static String printed(Path folder, String commands) throws IOException, InterruptedException {
        Process run = new ProcessBuilder(List.of("sh", "-e", "-c", commands)).directory(folder.toFile())
            .redirectError(ProcessBuilder.Redirect.INHERIT).start();
        String text = new String(run.getInputStream().readAllBytes());
        Due.due("the example's commands end with", run.waitFor(), 0);
        return text;
    }

    private static void same(String got, String want) {
        String[] gotLines = got.split("\n", -1);
        String[] wantLines = want.split("\n", -1);
        Due.due("lines that the example prints", gotLines.length, wantLines.length);
        for (int i = 0; i < gotLines.length && i < wantLines.length; i++) {
            Due.due("the example prints \"" + gotLines[i] + "\", and \"" + wantLines[i] + "\" stands there: alike",
                gotLines[i].equals(wantLines[i]), true);
        }
    }

    private static void remove(Path folder) throws IOException {
        try (var paths = Files.walk(folder)) {
            for (Path path : paths.sorted(Comparator.reverseOrder()).toList()) {
                Files.delete(path);
            }
        }
    }
}
