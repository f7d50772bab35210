import java.io.IOException;
import java.nio.file.Files;
import java.nio.file.Path;
import java.util.List;
import java.util.regex.Matcher;
import java.util.regex.Pattern;

/** Those rules of ../shared/LANGUAGE.md that can be seen in the text of the program. */
public final class LanguageTest {
    private static final String[] FORBIDDEN = {"::", "\\bfinally\\b", "\\bsynchronized\\b", "\\bassert\\b",
        "\\bMath\\.\\w*Exact\\b", "\\bstatic final (float|double)\\b",
        "\\bstatic (?!final|class)(int|long|boolean)\\b[^(]*;", "\\bstatic \\{", "\\b(hashCode|getMessage)\\(",
        "\\b(Random|Thread|File|Class)\\b", "\\bSystem\\.(?!arraycopy)", "\\bprotected\\b",
        "\\bcatch \\([^)]*\\b(Array\\w+|NullPointerException|ClassCastException|NegativeArraySizeException|Exception|Throwable|Error)\\b",
        "(?m)^(?!\\s*(case|default)\\b).*->", "\\bthrow (?!new (IllegalState|IllegalArgument|IndexOutOfBounds)Exception\\()"};
    private static final List<String> IMPORTS = List.of("java.util.ArrayList", "java.util.Arrays", "java.util.Iterator",
            "java.util.List", "java.util.NoSuchElementException");

    public static void main(String[] args) throws IOException {
        String text = Files.readString(Path.of("src/main/java/TwigPatch.java"));
        Check.is("all signs are plain", text.chars().allMatch(c -> c < 127), true);
        String code = text.replaceAll("\"[^\"\n]*\"", "\"\"").replaceAll("(?s)/\\*.*?\\*/", "").replaceAll("//[^\n]*", "");
        for (String pattern : FORBIDDEN) {
            Matcher found = Pattern.compile(pattern).matcher(code);
            Check.is("there is " + pattern, found.find() ? found.group() : "none", "none");
        }
        Matcher imports = Pattern.compile("import ([\\w.*]+);").matcher(code);
        while (imports.find()) {
            Check.is("import of " + imports.group(1), IMPORTS.contains(imports.group(1)), true);
        }
        Matcher classes = Pattern.compile("\\b(class|interface|enum|record) \\w+").matcher(code);
        Check.is("some twelve classes", classes.results().count() <= 13, true);
        methods(code);
        Check.end();
    }

    private static void methods(String code) {
        Matcher heads = Pattern.compile("\n( +)(?:public |private |static )*[\\w\\[\\]]+ (\\w+)\\(([^)]*)\\)[^;{]*\\{").matcher(code);
        int methods = 0;
        while (heads.find()) {
            if (heads.group(2).equals("if") || heads.group(0).contains("new ")) {
                continue;
            }
            methods++;
            int end = code.indexOf("\n" + heads.group(1) + "}", heads.start());
            long lines = code.substring(heads.start(), end).lines().count();
            Check.is(heads.group(2) + " is short", lines <= 60, true);
            Check.is(heads.group(2) + " takes few", heads.group(3).split(",").length <= 7, true);
        }
        Check.is("the methods were found", methods > 36, true);
    }
}
