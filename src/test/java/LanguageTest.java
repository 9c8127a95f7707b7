import java.nio.charset.StandardCharsets;
import java.nio.file.Files;
import java.nio.file.Path;
import java.util.ArrayList;
import java.util.List;
import java.util.Set;
import java.util.TreeSet;
import java.util.regex.Matcher;
import java.util.regex.Pattern;

/** What of ../shared/LANGUAGE.md can be seen in the text of the class. */
public final class LanguageTest {
    private static final String FILE = "src/main/java/PuzzleWed.java";
    private static int wrong = 0;

    public static void main(String[] args) throws Exception {
        String whole = new String(Files.readAllBytes(Path.of(FILE)), StandardCharsets.ISO_8859_1);
        String code = bare(whole);
        forbidden(code);
        library(code);
        face(code);
        sizes(code);
        due("signs 1 to 127 alone", whole.chars().allMatch(c -> c > 0 && c < 128));
        due("no package", !find(code, "\\bpackage\\b"));
        System.out.println(wrong == 0 ? "LanguageTest: the text keeps to the rules" : wrong + " rules are broken");
        if (wrong != 0) System.exit(1);
    }

    private static void due(String rule, boolean kept) {
        if (!kept) {
            wrong++;
            System.out.println("broken: " + rule);
        }
    }

    private static boolean find(String code, String pattern) {
        return Pattern.compile(pattern).matcher(code).find();
    }

    private static List<String> all(String code, String pattern) {
        List<String> list = new ArrayList<>();
        Matcher m = Pattern.compile(pattern).matcher(code);
        while (m.find()) list.add(m.group(1));
        return list;
    }

    /** The code without comments, and with empty texts. */
    private static String bare(String whole) {
        String code = whole.replaceAll("(?s)/\\*.*?\\*/", "").replaceAll("//[^\n]*", "");
        return code.replaceAll("\"(\\\\.|[^\"\\\\])*\"", "\"\"").replaceAll("'(\\\\.|[^'\\\\])'", "'x'");
    }

    private static void forbidden(String code) {
        String[] words = {"throw", "throws", "try", "catch", "finally", "synchronized", "assert", "volatile", "transient", "native",
            "strictfp", "var", "yield", "protected", "Math\\.\\w+Exact", "Object", "Thread", "hashCode",
            "equals", "toString", "Random", "Character", "double", "float"};
        for (String word : words) due("no " + word, !find(code, "\\b" + word + "\\b"));
        due("of System arraycopy alone", !find(code, "\\bSystem\\.(?!arraycopy\\b)"));
        due("no lambda, no arrow", !code.contains("->"));
        due("no method reference", !code.contains("::"));
        due("no text joined by +", !find(code, "\"\\s*\\+|\\+\\s*\""));
        due("no annotation", !code.contains("@"));
        due("no static initialiser", !find(code, "static\\s*\\{"));
        due("static fields are final", !find(code, "(?m)^\\s*(private |public )?static (?!final|abstract)[\\w\\[\\]]+ \\w+\\s*[=;]"));
        for (String ends : all(code, "(?m)^\\s*while \\((.*)$")) due("while without a bound: " + ends, false);
    }

    private static void library(String code) {
        Set<String> imports = new TreeSet<>(all(code, "import ([\\w.]+);"));
        imports.removeAll(Set.of("java.util.Arrays", "java.util.ArrayList", "java.util.List"));
        due("no other imports " + imports, imports.isEmpty());
        Set<String> math = new TreeSet<>(all(code, "\\b(?:Math|Integer|Long|Arrays)\\.(\\w+)"));
        math.removeAll(Set.of("abs", "min", "max", "bitCount", "fill", "floorMod", "floorDiv", "copyOf"));
        due("of the library no more " + math, math.isEmpty());
    }

    private static void face(String code) {
        String outer = code.substring(0, code.indexOf("static final class Land"));
        Set<String> open = new TreeSet<>(all(outer, "(?m)^    public (?:static final )?[\\w\\[\\]]+ (\\w+)\\s*[(=]"));
        Set<String> face = new TreeSet<>(List.of(("NONE person wear dies weds feed law edge journey days tried personIs piece slack locks most stable "
            + "unrest search sanding steaming worn cutter copies mate seed keep undo check count").split(" ")));
        due("the face and no more " + open, open.equals(face));
        due("nothing open within the package", !find(outer, "(?m)^    (?!public|private|})\\S.*[;{]"));
        for (String name : all(code, "(?m)^\\s+(?:private |final |abstract )*(?:static )?(?:int|boolean|void|long|\\w+\\[\\]) (\\w+)\\(")) {
            due("a method beside the face named as one of it: " + name, !face.contains(name));
        }
        int classes = all(code, "\\bclass (\\w+)").size();
        due("classes " + classes, classes <= 12);
        due("nested classes are static", all(code, "(?m)^    (.*class \\w+.*)$").stream().allMatch(c -> c.contains("static")));
    }

    private static void sizes(String code) {
        String[] lines = code.split("\n");
        int start = -1;
        int fields = 0;
        String indent = "";
        for (int l = 0; l < lines.length; l++) {
            String line = lines[l];
            if (find(line, "\\bclass \\w+")) fields = 0;
            if (find(line, "^\\s+(private |public )?(static )?(final )?[\\w\\[\\]]+ \\w+;$") && !find(line, "return|static") && depth(line) <= 8) fields++;
            due("fields at line " + (l + 1), fields <= 20);
            if (find(line, "^( {4}| {8})[\\w\\[\\] ]*\\w+\\([^;]*\\) \\{$") && !find(line, "\\b(if|for|while|switch)\\b")) {
                start = l;
                indent = " ".repeat(depth(line));
                due("parameters at " + line, line.chars().filter(c -> c == ',').count() <= 6);
            }
            if (start >= 0 && line.equals(indent + "}")) {
                due("a method of " + (l - start + 1) + " lines: " + lines[start], l - start < 60);
                start = -1;
            }
        }
    }

    private static int depth(String line) {
        return line.length() - line.stripLeading().length();
    }
}
