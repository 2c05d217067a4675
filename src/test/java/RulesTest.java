import java.io.IOException;
import java.util.regex.Matcher;
import java.util.regex.Pattern;

/** What LANGUAGE.md rules out, as far as the source can be searched for it. */
public final class RulesTest {
    private static final String[] NEVER = {
        "->", "::", "\\b(try|catch|finally|synchronized|assert|native|volatile|transient|yield|var|goto|strictfp)\\b",
        "\\b(Object|Class|Thread|Runtime|Random|Scanner|Optional|Stream|Collections|Objects|Map|HashMap|Set)\\b",
        "\\bstatic *\\{", "\\bSystem\\.(?!arraycopy\\b)", "\\w+Exact\\b", "\\.(hashCode|getMessage|getClass)\\(",
        "\\bnew [A-Z]\\w*\\([^;{]*\\) *\\{", "\\bMath\\.(?!(max|min|abs|floorDiv|floorMod)\\()"};
    private static final String THROWN = "IllegalStateException|IllegalArgumentException|IndexOutOfBoundsException"
            + "|ArithmeticException|UnsupportedOperationException|NoSuchElementException|RuntimeException";

    public static void main(String[] args) throws IOException {
        String source = Due.fileOfProject("src/main/java/InnNight.java");
        for (int k = 0; k < source.length(); k++) {
            if (source.charAt(k) < 1 || source.charAt(k) > 127) {
                Due.due("the sign at " + k, source.charAt(k), ' ');
            }
        }
        String code = withoutRemarks(source);
        for (String never : NEVER) {
            Matcher found = Pattern.compile(never).matcher(code);
            Due.due("the code has " + (found.find() ? found.group() : never), found.reset().find(), false);
        }
        face(code);
        imports(code);
        thrown(code);
        fields(code);
        methods(code);
        Due.due("some twelve classes", times("\\b(class|record|enum|interface) \\w", code) <= 12, true);
        Due.close();
    }

    /** Remarks and the signs between quotes are no code. */
    private static String withoutRemarks(String source) {
        return source.replaceAll("\"[^\"\n]*\"", "\"\"").replaceAll("(?s)/\\*.*?\\*/", "").replaceAll("//.*", "");
    }

    private static int times(String pattern, String code) {
        Matcher found = Pattern.compile(pattern).matcher(code);
        int number = 0;
        while (found.find()) {
            number++;
        }
        return number;
    }

    /** Word for word, what may be thrown too. */
    private static void face(String code) {
        Matcher found = Pattern.compile("(?m)^    (public [^{}=;]*\\)[^{}=;]*?) \\{").matcher(code);
        int number = 0;
        while (found.find()) {
            number++;
            Due.says(found.group(1) + ";");
        }
        Due.says("public int sum(int what); }");
        Due.due("the constructor and the methods", number, 45);
    }

    private static void imports(String code) {
        Due.due("a package", times("(?m)^package\\b", code), 0);
        Matcher found = Pattern.compile("(?m)^import (.*);").matcher(code);
        while (found.find()) {
            boolean is = found.group(1).matches("java\\.util\\.(ArrayList|Arrays|Iterator|List|NoSuchElementException)");
            Due.due("import of " + found.group(1), is, true);
        }
    }

    private static void thrown(String code) {
        Due.due("each throw is of a new exception", times("\\bthrow\\b", code),
                times("\\bthrow new (" + THROWN + ")\\(\"?\"?\\);", code));
    }

    private static void fields(String code) {
        Matcher found = Pattern.compile("(?m)^.*\\bstatic\\b.*[=;]\\s*$|^.*\\bstatic\\b[^({]*=.*$").matcher(code);
        int number = 0;
        while (found.find()) {
            number++;
            Due.due("a final one: " + found.group().trim(), found.group().contains(" final "), true);
        }
        Due.due("static fields were found", number > 0, true);
    }

    /** A method begins where its level's indent does and ends at the same one. */
    private static void methods(String code) {
        int methods = 0;
        Matcher found = Pattern.compile("(?sm)^( {4}| {8})(?=\\S)(?:(?!\\b(?:class|new|if|for|while|switch)\\b)[^;{}=])*\\([^;{}]*\\)"
                + "[^;{}]*\\{\n.*?^\\1\\}").matcher(code);
        while (found.find()) {
            methods++;
            String name = found.group().trim().split("\n")[0];
            Due.due(name + " has some sixty lines", found.group().split("\n").length <= 60, true);
            Due.due(name + " has at most seven parameters", name.replaceAll("[^,]", "").length() <= 6, true);
        }
        Due.due("methods were found: " + methods, methods > 100, true);
    }
}
