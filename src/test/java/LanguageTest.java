import java.nio.charset.StandardCharsets;
import java.nio.file.Files;
import java.nio.file.Path;
import java.util.HashMap;
import java.util.HashSet;
import java.util.List;
import java.util.Map;
import java.util.Set;
import java.util.regex.Matcher;
import java.util.regex.Pattern;

/** What of ../shared/LANGUAGE.md can be seen by looking for words; the first argument is the class's file. */
public final class LanguageTest {
    private static final Due DUE = new Due("LanguageTest");
    private static final List<String> FORBIDDEN = List.of("\\bthrow\\b", "\\bthrows\\b", "\\btry\\b", "\\bcatch\\b",
        "\\bsynchronized\\b", "\\bassert\\b", "\\bprotected\\b", "\\bpackage\\b", "\\bimport\\b", "->", "::", "\\bstatic \\{",
        "Exact\\b", "\\bSystem\\.(?!arraycopy)", "\\bObject\\b", "\\bString\\.", "\\bThread\\b", "\" \\+", "\\+ \"",
        "\\[\\]\\[\\]\\[\\]", "\\bnull\\b");

    public static void main(String[] args) throws Exception {
        String all = Files.readString(Path.of(args[0]), StandardCharsets.UTF_8);
        String code = all.replaceAll("(?s)/\\*.*?\\*/", "").replaceAll("//[^\n]*", "");
        for (String word : FORBIDDEN) {
            DUE.is("times that " + word + " stands there", count(code, word), 0);
        }
        DUE.is("signs beyond 127", all.chars().filter(c -> c > 127).count(), 0);
        DUE.is("public classes", count(code, "public final class "), 1);
        DUE.is("loops without a bound", count(code, "while \\(true\\)|for \\(;;\\)"), 0);
        names(code);
        lengths(code);
        DUE.is("classes beyond twelve", Math.max(0, count(code, "\\b(class|record|enum|interface) \\w+ ") - 12), 0);
        parameters(code);
        depth(code);
        fields(code);
        DUE.is("static fields that are not final", count(code, "\\bstatic (?!final )[\\w\\[\\]]+ \\w+( =|;)"), 0);
        DUE.is("static arrays", count(code, "\\bstatic final \\w+\\["), 0);
        DUE.is("texts held against one another by ==", count(code, "[!=]= \"|\" [!=]="), 0);
        DUE.end();
    }

    private static int count(String code, String pattern) {
        Matcher m = Pattern.compile(pattern).matcher(code);
        int n = 0;
        while (m.find()) {
            n++;
        }
        return n;
    }

    /** No method that is not public bears the name of a public one. */
    private static void names(String code) {
        Set<String> open = new HashSet<>();
        Matcher m = Pattern.compile("\n    public \\w+ (\\w+)\\(").matcher(code);
        while (m.find()) {
            open.add(m.group(1));
        }
        DUE.is("public methods", open.size(), 25);
        Matcher other = Pattern.compile("\n {4,8}(?:private |static )*(?:int|long|boolean|void) (\\w+)\\(").matcher(code);
        while (other.find()) {
            DUE.is("a method that is not public: " + other.group(1), open.contains(other.group(1)) ? 1 : 0, 0);
        }
    }

    /** At most seven parameters. */
    private static void parameters(String code) {
        Matcher head = Pattern.compile("\n {4,8}\\w[\\w ]* (\\w+)\\(([^()]*)\\) \\{").matcher(code);
        int heads = 0;
        while (head.find()) {
            heads++;
            DUE.is("parameters of " + head.group(1), Math.max(0, head.group(2).split(",").length - 7), 0);
        }
        DUE.is("heads of methods, at least 50", Math.min(heads, 50), 50);
    }

    /** Methods of at most sixty lines, from a brace behind a head to the brace at the head's own depth. */
    private static void lengths(String code) {
        String[] lines = code.split("\n");
        for (int i = 0; i < lines.length; i++) {
            Matcher head = Pattern.compile("^( {4}| {8})\\w.*\\) \\{$").matcher(lines[i]);
            if (head.find()) {
                int end = i;
                while (!lines[end].equals(head.group(1) + "}")) {
                    end++;
                }
                DUE.is("lines of " + lines[i].trim(), Math.max(0, end - i + 1 - 60), 0);
            }
        }
    }

    /** Calls open at once, at most eight deep; methods of one name are taken for one. */
    private static void depth(String code) {
        Map<String, Set<String>> calls = new HashMap<>();
        Matcher body = Pattern.compile("(?s)\n( {4}| {8})\\w[\\w \\[\\]]* (\\w+)\\([^()]*\\) \\{\n(.*?)\n\\1\\}").matcher(code);
        while (body.find()) {
            Set<String> called = calls.computeIfAbsent(body.group(2), name -> new HashSet<>());
            Matcher call = Pattern.compile("\\b(\\w+)\\(").matcher(body.group(3));
            while (call.find()) {
                called.add(call.group(1));
            }
        }
        DUE.is("methods, at least 70", Math.min(calls.size(), 70), 70);
        for (String name : calls.keySet()) {
            DUE.is("calls too deep from " + name, Math.max(0, deepest(name, calls, new HashSet<>()) - 8), 0);
        }
    }

    /** A method that is open already is recursion, whose depth is carried as an argument: it adds nothing. */
    private static int deepest(String name, Map<String, Set<String>> calls, Set<String> open) {
        if (!calls.containsKey(name) || !open.add(name)) {
            return 0;
        }
        int most = 0;
        for (String next : calls.get(name)) {
            most = Math.max(most, deepest(next, calls, open));
        }
        open.remove(name);
        return most + 1;
    }

    /** At most twenty fields a class beside its constants, none of them package-visible or more in the class itself. */
    private static void fields(String code) {
        for (String each : code.split("\\bclass ")) {
            String name = each.split("\\W", 2)[0];
            Matcher field = Pattern.compile("(?m)^( {4}| {8})(?!.*\\bstatic )(private |final )*[\\w\\[\\]]+ \\w+( = [^;]*)?;$").matcher(each);
            int fields = 0;
            while (field.find()) {
                boolean ofTheFace = field.group(1).length() == 4;
                fields += ofTheFace == name.equals("ThreeVoices") ? 1 : 0;
                DUE.is("a field that is not private: " + field.group().trim(),
                    ofTheFace && !field.group().contains("private ") ? 1 : 0, 0);
            }
            DUE.is("fields of " + name + " beyond twenty", Math.max(0, fields - 20), 0);
        }
    }
}
