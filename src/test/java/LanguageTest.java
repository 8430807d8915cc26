import java.io.IOException;
import java.nio.file.Files;
import java.nio.file.Path;
import java.util.List;
import java.util.regex.Matcher;
import java.util.regex.Pattern;

/** What can be seen of LANGUAGE.md in the source's own lines; run from the checkout's root. */
public final class LanguageTest {
    private static final String[] NOT_ALLOWED = {
        "->", "::", "\\btry\\b", "\\bcatch\\b", "\\bfinally\\b", "\\bsynchronized\\b", "\\bassert\\b", "^package\\b",
        "\\bstatic \\{", "\\w+Exact\\(", "\\bhashCode\\b", "\\btoString\\b", "\\bSystem\\.(?!arraycopy)", "\\bvar\\b",
        "\\bprotected\\b", "\\bObject\\b", "\\bdouble\\b", "\\bfloat\\b", "\\bMath\\.(?!max\\(|min\\()", "\"\\s*\\+", "\\+\\s*\""};
    private static final Pattern TYPE = Pattern.compile("\\b[A-Z]\\w*[a-z]\\w*");
    private static final List<String> TYPES = List.of(
        "BallBook", "Grid", "Bytes", "Over", "Turn", "Game", "Change", "Changes", "Tally", "Play", "Records", "Reader",
        "ArrayList", "NoSuchElementException", "Math");
    private static int wrong = 0;

    public static void main(String[] args) throws IOException {
        List<String> lines = Files.readAllLines(Path.of("src/main/java/BallBook.java"));
        int begun = 0;
        for (int k = 0; k < lines.size(); k++) {
            String line = lines.get(k);
            String code = line.replaceAll("//.*", "").replaceAll("^\\s*/\\*\\*.*\\*/", "");
            for (String pattern : NOT_ALLOWED) {
                must(!Pattern.compile(pattern).matcher(code).find(), k, "has " + pattern);
            }
            Matcher types = TYPE.matcher(code.replaceAll("\"[^\"]*\"", ""));
            while (types.find()) {
                must(TYPES.contains(types.group()), k, "uses " + types.group());
            }
            must(!code.startsWith("import ") || code.matches("import java\\.util\\.(ArrayList|NoSuchElementException);"), k, "imports something else");
            must(!code.contains("throw ") || code.contains("throw new NoSuchElementException(\""), k, "throws something else");
            if (code.matches("    (    )?(public |private |static )*\\w[\\w<>\\[\\]]* ?\\w*\\(.*\\{") && !code.contains(" new ")) {
                begun = k;
                must(code.chars().filter(c -> c == ',').count() < 7, k, "has more than seven parameters");
            }
            if (code.equals("    }") || code.equals("        }")) {
                must(k - begun < 60 || code.equals("    }"), k, "ends a method of more than sixty lines");
            }
        }
        System.out.println(wrong == 0 ? "the source keeps to the language" : wrong + " faults");
        if (wrong != 0) {
            System.exit(1);
        }
    }

    private static void must(boolean holds, int line, String what) {
        if (!holds) {
            wrong++;
            System.out.println("line " + (line + 1) + " " + what);
        }
    }
}
