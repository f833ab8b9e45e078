import java.io.IOException;
import java.nio.file.Files;
import java.nio.file.Path;
import java.util.List;
import java.util.regex.Matcher;
import java.util.regex.Pattern;

/** What LANGUAGE.md says about the text of the class, as far as its words tell. Run where src stands. */
final class LanguageTest {
    private static final List<String> NOT_THERE = List.of(
        "->", "::", "\\bsynchronized\\b", "\\bassert\\b", "\\bfinally\\b", "\\btry\\b", "\\bcatch\\b", "\\bdouble\\b",
        "\\bfloat\\b", "Exact\\(", "\\bpackage\\b", "\\bnative\\b", "\\bvolatile\\b", "\\binstanceof\\b", "\\bprotected\\b",
        "\\bObject\\b", "\\bequals\\(", "\\bhashCode\\b", "\\btoString\\b", "\\bwhile\\b", "Integer\\.M", "Long\\.M");

    private static final Pattern LIBRARY = Pattern.compile("\\b(System|Arrays|Math|Long|Integer|String|List|ArrayList)\\.(\\w+)");
    private static final List<String> USED = List.of(
        "System.arraycopy", "Arrays.fill", "Arrays.copyOf", "Math.max", "Math.min", "Math.floorDiv", "Long.numberOfLeadingZeros");
    private static final Pattern METHOD = Pattern.compile("^( +)(?:(?:public|private|static|final) )*[\\w\\[\\]]+ \\w+\\(.*\\{$");

    public static void main(String[] args) throws IOException {
        Checks checks = new Checks("LanguageTest");
        String text = Files.readString(Path.of("src/main/java/DrawingMachine.java"));
        String code = text.replaceAll("(?s)/\\*.*?\\*/", "").replaceAll("//[^\n]*", "").replaceAll("\"[^\"]*\"", "\"\"");
        for (String word : NOT_THERE) {
            checks.due("there is " + word, Pattern.compile(word).matcher(code).find() ? 1 : 0, 0);
        }
        Matcher uses = LIBRARY.matcher(code);
        while (uses.find()) {
            checks.due(uses.group() + " may be used", USED.contains(uses.group()) || uses.group().equals("java.util.Arrays") ? 1 : 0, 1);
        }
        Matcher imports = Pattern.compile("(?m)^import (.*);").matcher(code);
        while (imports.find()) {
            checks.due("an import", imports.group(1), "java.util.Arrays");
        }
        Matcher thrown = Pattern.compile("throw new (\\w+)\\(").matcher(code);
        while (thrown.find()) {
            checks.due("thrown: " + thrown.group(1), List.of("IllegalStateException", "IllegalArgumentException",
                "IndexOutOfBoundsException", "UnsupportedOperationException").contains(thrown.group(1)) ? 1 : 0, 1);
        }
        lengths(checks, text.split("\n"));
        checks.finish();
    }

    private static void lengths(Checks checks, String[] lines) {
        for (int i = 0; i < lines.length; i++) {
            checks.due("line " + (i + 1) + " is at most 120 long", lines[i].length() <= 120 ? 1 : 0, 1);
            Matcher method = METHOD.matcher(lines[i]);
            if (!method.matches() || lines[i].trim().startsWith("if ") || lines[i].trim().startsWith("else ")) {
                continue;
            }
            int last = i;
            while (!lines[last].equals(method.group(1) + "}")) {
                last++;
            }
            checks.due("at most sixty lines: " + lines[i].trim(), last - i + 1 <= 60 ? 1 : 0, 1);
        }
    }
}
