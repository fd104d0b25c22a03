import java.nio.file.Files;
import java.nio.file.Path;
import java.util.List;
import java.util.regex.Matcher;
import java.util.regex.Pattern;

/** What LANGUAGE.md rules out and what can be seen in the program's text; run from the project's folder. */
public final class LanguageTest {
    private static final Due due = new Due();

    public static void main(String[] args) throws Exception {
        String text = Files.readString(Path.of("src/main/java/MoveInn.java"));
        String code = text.replaceAll("(?s)/\\*.*?\\*/", "").replaceAll("//[^\n]*", "")
                .replaceAll("\"[^\"\n]*\"", "\"\"");
        for (String word : List.of("->", "::", "try", "catch", "finally", "synchronized", "assert", "instanceof",
                "volatile", "transient", "native", "static {", "protected", "double", "float", "Exact",
                "toString", "hashCode", "System.out", "Object", "var ", "package ", "implements", "extends",
                "new String", "StringBuilder")) {
            due.is("no " + word, Pattern.compile("(?<![A-Za-z])" + Pattern.quote(word)).matcher(code).find(), false);
        }
        imports(code);
        libraryCalls(code);
        sizes(code);
        due.is("signs of the text", text.chars().allMatch(sign -> sign == 10 || sign >= 32 && sign <= 126), true);
        due.end();
    }

    private static void imports(String code) {
        Matcher matcher = Pattern.compile("import ([^;]*);").matcher(code);
        while (matcher.find()) {
            due.is("import " + matcher.group(1),
                    List.of("java.util.Arrays", "java.util.NoSuchElementException").contains(matcher.group(1)), true);
        }
    }

    private static void libraryCalls(String code) {
        Matcher matcher = Pattern.compile("\\b(Math|Integer|Long|Arrays|System)\\.([a-zA-Z]+)").matcher(code);
        while (matcher.find()) {
            due.is("library " + matcher.group(), List.of("Math.max", "Math.min", "Math.abs", "Integer.bitCount",
                    "Arrays.fill", "System.arraycopy").contains(matcher.group()), true);
        }
    }

    /** Methods of at most sixty lines and seven parameters, at most twelve classes of twenty fields. */
    private static void sizes(String code) {
        int classes = 0;
        int fields = 0;
        int methodBegan = -1;
        String[] lines = code.split("\n");
        for (int i = 0; i < lines.length; i++) {
            String line = lines[i];
            String inside = line.strip();
            if (inside.contains(" class ")) {
                classes++;
                fields = 0;
            } else if (inside.matches("(private |final )*[A-Za-z]+(\\[\\])? [a-zA-Z]+( = .*)?;")
                    && line.matches(" {4}( {4})?[^ ].*") && methodBegan == -1) {
                fields++;
                due.is("fields up to line " + (i + 1), fields <= 20, true);
            } else if (methodBegan == -1 && inside.matches(".*\\).*\\{")) {
                methodBegan = i;
                due.is("parameters in line " + (i + 1), inside.split(",").length <= 7, true);
            } else if (methodBegan != -1 && line.equals(lines[methodBegan].replaceAll("[^ ].*", "}"))) {
                due.is("lines of the method in line " + (methodBegan + 1), i - methodBegan <= 60, true);
                methodBegan = -1;
            }
        }
        due.is("classes " + classes, classes <= 12, true);
    }
}
