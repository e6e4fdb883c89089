import java.nio.charset.StandardCharsets;
import java.nio.file.Files;
import java.nio.file.Path;
import java.util.ArrayList;
import java.util.List;
import java.util.regex.Matcher;
import java.util.regex.Pattern;

/** What of LANGUAGE.md can be seen from the text of DeadWires.java; the source's path is the argument. */
public final class RulesTest {
    private static final String[] NEVER = {
        "->", "::", "\\bcatch\\b", "\\btry\\b", "\\bfinally\\b", "\\bsynchronized\\b", "\\bassert\\b", "\\bprotected\\b",
        "Exact\\b", "\\bhashCode\\b", "\\btoString\\b", "\\bSystem\\.(?!arraycopy)", "\\bThread\\b", "\\bRandom\\b",
        "\\bdouble\\b", "\\bfloat\\b", "\\bstatic\\s*\\{", "\\bwhile\\s*\\(\\s*true", "\\bfor\\s*\\(\\s*;", "\\bpackage\\b",
        "\\bvar\\b", "\\bObject\\b"};

    public static void main(String[] args) throws Exception {
        Path source = Path.of(args.length > 0 ? args[0] : "src/main/java/DeadWires.java");
        String text = Files.readString(source, StandardCharsets.UTF_8);
        String code = withoutComments(text);
        for (String never : NEVER) {
            Check.due("found " + never, Pattern.compile(never).matcher(code).find() ? 1 : 0, 0);
        }
        Check.due("imports", count(code, "^import .*$"), 1);
        Check.due("the one import", count(code, "^import java\\.util\\.NoSuchElementException;$"), 1);
        Check.due("signs 1 to 127 alone", text.chars().allMatch(c -> c >= 1 && c <= 127) ? 1 : 0, 1);
        Check.due("twelve classes at most", count(code, "\\b(class|interface|enum|record) [A-Z]") <= 12 ? 1 : 0, 1);
        Check.due("static state", count(code, "^\\s+(private |public )?static (?!final)[^(]*[;=]"), 0);
        Check.due("arrays made outside fields", madeLater(code), 0);
        methods(code);
        Check.end();
    }

    private static String withoutComments(String text) {
        return text.replaceAll("(?s)/\\*.*?\\*/", "").replaceAll("//[^\n]*", "");
    }

    private static int count(String code, String pattern) {
        Matcher m = Pattern.compile(pattern, Pattern.MULTILINE).matcher(code);
        int many = 0;
        while (m.find()) {
            many++;
        }
        return many;
    }

    /** All calls share one room, so rows are made with the object and never by a call. */
    private static int madeLater(String code) {
        return count(code, "\\bnew [a-z]+\\[") - count(code, "^\\s+(private )?final [a-z]+\\[\\] \\w+ = new [a-z]+\\[");
    }

    private static void methods(String code) {
        Pattern head = Pattern.compile("^( {8}| {4})(?=\\S)(?!return|throw|else)[\\w\\[\\]. ]+\\(([^()]*)\\)[\\w\\s,]*\\{$", Pattern.MULTILINE);
        Matcher m = head.matcher(code);
        List<String> seen = new ArrayList<>();
        while (m.find()) {
            String name = m.group().trim();
            if (name.startsWith("if") || name.startsWith("for") || name.startsWith("while") || name.startsWith("switch")) {
                continue;
            }
            seen.add(name);
            int parameters = m.group(2).isBlank() ? 0 : m.group(2).split(",").length;
            Check.due(name + ": parameters", parameters <= 7 ? 1 : 0, 1);
            int end = code.indexOf("\n" + m.group(1) + "}", m.end());
            int lines = code.substring(m.start(), end).split("\n").length;
            Check.due(name + ": " + lines + " lines", lines <= 60 ? 1 : 0, 1);
        }
        Check.due("methods were found", seen.size() > 100 ? 1 : 0, 1);
    }
}
