import java.io.IOException;
import java.nio.file.Files;
import java.nio.file.Path;
import java.util.List;
import java.util.regex.Matcher;
import java.util.regex.Pattern;

/** What LANGUAGE.md forbids and a look at the source's words can find; run from the project's root. */
public final class LanguageTest {
    private static final Path SOURCE = Path.of("src/main/java/BuildingJury.java");
    private static final List<String> FORBIDDEN = List.of("\\bimport\\b", "\\bpackage\\b", "\\bthrow\\b", "\\bthrows\\b",
        "\\btry\\b", "\\bcatch\\b", "\\bsynchronized\\b", "\\bassert\\b", "\\bprotected\\b", "->", "::", "\\bvar\\b",
        "\\b(equals|hashCode|toString)\\b", "Exact\\b", "\\bSystem\\.(?!arraycopy)", "\\bThread\\b", "\\bRandom\\b",
        "\\bnew \\w+\\(\\) *\\{", "\\bObject\\b", "\\blambda\\b", "\\[\\]\\[\\]\\[\\]", "@", "\\bstatic *\\{");

    public static void main(String[] args) throws IOException {
        String source = Files.readString(SOURCE);
        String code = source.replaceAll("(?s)/\\*.*?\\*/", "").replaceAll("//.*", "").replaceAll("'.'|\"[^\"]*\"", "0")
            .replaceAll("(?m)^ +$", "");
        for (String word : FORBIDDEN) {
            Matcher m = Pattern.compile(word).matcher(code);
            Due.due("the source has " + word, m.find(), false);
        }
        Due.due("signs beyond 127", source.chars().anyMatch(c -> c > 126), false);
        openMembers(code);
        privateNames(code);
        parameters(code);
        Due.due("classes", Pattern.compile("\\bclass \\w+").matcher(code).results().count() <= 12, true);
        methodLengths(source);
        Due.end();
    }

    /** The face alone is public, and of the outer class nothing else is but private. */
    private static void openMembers(String code) {
        long face = Pattern.compile("(?m)^    public ").matcher(code).results().count();
        Due.due("public members", face, 37);
        Due.due("public ones further in", Pattern.compile("(?m)^     +public ").matcher(code).find(), false);
        Due.due("outer members that are neither", Pattern.compile("(?m)^    (?!public |private |[ }])").matcher(code).find(), false);
    }

    private static void privateNames(String code) {
        Matcher face = Pattern.compile("(?m)^    public \\w+ (\\w+)\\(").matcher(code);
        while (face.find()) {
            Matcher same = Pattern.compile("(?m)^ +(?!public|return|new)(\\w+ )+" + face.group(1) + "\\([^;]*\\{").matcher(code);
            Due.due("a method inside bears the name " + face.group(1), same.find(), false);
        }
    }

    private static void parameters(String code) {
        Matcher m = Pattern.compile("\\w+ \\w+\\(([^()]*)\\) \\{").matcher(code);
        while (m.find()) {
            Due.due("parameters of " + m.group(), m.group(1).split(",").length <= 7, true);
        }
    }

    private static void methodLengths(String source) {
        int began = 0;
        int line = 0;
        for (String text : source.split("\n", -1)) {
            line++;
            if (text.matches(" {4,8}[\\w\\[\\]].*\\) \\{")) {
                began = line;
            } else if (text.matches(" {4,8}\\}") && began > 0) {
                Due.due("lines of the method at " + began, line - began <= 60, true);
                began = 0;
            }
        }
    }
}
