import java.io.IOException;
import java.nio.file.Files;
import java.nio.file.Path;
import java.util.List;

/** The rules of LANGUAGE.md that the words of the file alone can show. It is run from the project's folder. */
public final class SourceTest {
    private static final Path SOURCE = Path.of("src/main/java/MeshLodger.java");
    private static final int LONGEST_METHOD = 60;
    private static final int MOST_CLASSES = 12;

    // What the class has no need of, though some of it would be allowed in places.
    private static final String[] NOT_THERE = {
        "import ", "package ", "try", "catch", "finally", "assert", "synchronized", "instanceof", "native", "volatile",
        "->", "::", "System.", "Thread", "Exact(", "hashCode", "equals(", "toString", "getClass", "double", "float",
        "Object", "ArrayIndexOutOfBounds", "NullPointer", "Random"
    };

    private static int wrong = 0;

    public static void main(String[] args) throws IOException {
        List<String> rows = Files.readAllLines(SOURCE);
        int classes = 0;
        int start = -1;
        for (int i = 0; i < rows.size(); i++) {
            String row = rows.get(i);
            String code = row.replaceAll("//.*", "").replaceAll("^\\s*/?\\*.*", "").replaceAll("\"[^\"]*\"", "\"\"");
            for (String word : NOT_THERE) {
                due(!code.contains(word), i, "has " + word);
            }
            due(!code.matches(".*\\bstatic\\b(?!.*\\b(final|class)\\b)[^(]*[;=].*"), i, "static, but not final");
            due(row.chars().allMatch(sign -> sign >= 32 && sign < 127), i, "a sign that is not plain");
            due(row.length() <= 120, i, "longer than 120");
            due(!code.contains("new ") || isForMaking(code), i, "makes something in a call");
            classes += code.matches(".*\\b(class|interface|enum|record) \\w+.*\\{") ? 1 : 0;
            if (code.matches("\\s+[\\w\\[\\] ]*\\w+\\([^;]*|\\s+throws .*") && !code.matches("\\s+(if|for|while|switch|return|else)\\b.*")) {
                start = i;
            }
            if (row.matches("    (    )?\\}") && start >= 0) {
                due(i - start < LONGEST_METHOD, start, "a method of over " + LONGEST_METHOD + " lines");
            }
        }
        due(classes <= MOST_CLASSES, 0, classes + " classes");
        System.out.println(wrong == 0 ? "the source keeps the rules that are looked for" : wrong + " faults in the source");
        System.exit(wrong == 0 ? 0 : 1);
    }

    // In fields and constructors, or an exception.
    private static boolean isForMaking(String code) {
        return code.contains("throw new ") || code.contains("private final ")
                || code.trim().startsWith("this.") || code.contains("requests[number] = new Request()");
    }

    private static void due(boolean kept, int row, String what) {
        if (!kept) {
            wrong++;
            System.out.println(SOURCE + ":" + (row + 1) + ": " + what);
        }
    }
}
