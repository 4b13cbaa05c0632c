import java.nio.file.Files;
import java.nio.file.Path;
import java.util.List;
import java.util.TreeSet;
import java.util.regex.Matcher;
import java.util.regex.Pattern;

/** Those of the rules of ../shared/LANGUAGE.md that can be seen from the text or the face of the class. */
public final class LanguageTest {
    private static final Check check = new Check("LanguageTest");

    public static void main(String[] args) throws Exception {
        String text = withoutCommentsAndTexts(Files.readString(Path.of("src/main/java/LinkChances.java")));
        words(text);
        face();
        names(text);
        methods(text);
        loops(text);
        check.end();
    }

    private static String withoutCommentsAndTexts(String text) {
        return text.replaceAll("(?s)/\\*.*?\\*/", "").replaceAll("//[^\n]*", "").replaceAll("\"[^\"\n]*\"", "TEXT").replaceAll("'.'", "SIGN");
    }

    private static void none(String text, String pattern) {
        Matcher found = Pattern.compile(pattern).matcher(text);
        check.due("rule against " + pattern, found.find() ? 1 : 0, 0);
    }

    // rules 1, 2, 4, 6, 13
    private static void words(String text) {
        for (String word : List.of("throw", "throws", "try", "catch", "finally", "synchronized", "assert", "import", "package",
            "equals", "hashCode", "toString", "protected", "volatile", "transient", "native", "strictfp", "instanceof", "goto", "yield", "var")) {
            none(text, "\\b" + word + "\\b");
        }
        none(text, "->|::");
        none(text, "@");
        none(text, "Exact\\b");
        none(text, "\\b(Object|System\\.(?!arraycopy)|Thread|Random|Runtime|Class|Exception|Error|Iterator)\\b");
        none(text, "static\\s*\\{");
        none(text, "\\bstatic (int|long|boolean|char|String|short|byte|double|float)(\\[\\])* \\w+ *[=;]");
        none(text, "class \\w+ extends");
        check.due("one public class", text.split("\\bpublic (final )?class\\b").length - 1, 1);
        check.due("at most twelve classes", text.split("\\bclass \\w").length - 1 <= 12 ? 1 : 0, 1);
    }

    // rule 1
    private static void face() throws Exception {
        TreeSet<String> due = new TreeSet<>();
        String doc = Files.readString(Path.of("../shared/DOC.md"));
        String face = doc.substring(doc.indexOf("```java"), doc.indexOf("```", doc.indexOf("```java") + 3));
        Matcher method = Pattern.compile("public (int|long) (\\w+)\\(([^)]*)\\);").matcher(face);
        while (method.find()) due.add(method.group(1) + " " + method.group(2) + method.group(3).replaceAll(" \\w+(?=,|$)", ""));
        TreeSet<String> got = new TreeSet<>();
        TreeSet<String> names = new TreeSet<>();
        for (java.lang.reflect.Method m : LinkChances.class.getDeclaredMethods()) {
            boolean isPublic = java.lang.reflect.Modifier.isPublic(m.getModifiers());
            boolean isPrivate = java.lang.reflect.Modifier.isPrivate(m.getModifiers());
            check.due(m.getName() + " is public or private", isPublic || isPrivate ? 1 : 0, 1);
            if (!isPublic) continue;
            StringBuilder types = new StringBuilder();
            for (Class<?> type : m.getParameterTypes()) types.append(types.length() == 0 ? "" : ", ").append(type.getName());
            got.add(m.getReturnType().getName() + " " + m.getName() + types);
            names.add(m.getName());
        }
        check.due("the face: due " + due + ", got " + got, due.equals(got) ? 1 : 0, 1);
        check.due("methods of the face", due.size(), 33);
        for (java.lang.reflect.Method m : LinkChances.class.getDeclaredMethods()) {
            if (java.lang.reflect.Modifier.isPrivate(m.getModifiers())) check.due(m.getName(), names.contains(m.getName()) ? 1 : 0, 0);
        }
        for (Class<?> inner : LinkChances.class.getDeclaredClasses()) {
            check.due(inner + " is static", java.lang.reflect.Modifier.isStatic(inner.getModifiers()) ? 1 : 0, 1);
            check.due(inner + ": fields", inner.getDeclaredFields().length <= 30 ? 1 : 0, 1);
            for (java.lang.reflect.Method m : inner.getDeclaredMethods()) {
                check.due(inner + " " + m.getName() + " bears no name of the face", names.contains(m.getName()) ? 1 : 0, 0);
                check.due(inner + " " + m.getName() + ": parameters", m.getParameterCount() <= 7 ? 1 : 0, 1);
            }
        }
    }

    /** Rules 4 and 12: objects are made in the constructors alone. */
    private static void names(String text) {
        Matcher made = Pattern.compile("\\bnew (\\w+)").matcher(text);
        while (made.find()) {
            check.due("new " + made.group(1), List.of("Net", "Odds", "SetCounts", "Shared", "CutAndJoin", "Orders", "Sheets", "TidyNet",
                "int", "long").contains(made.group(1)) ? 1 : 0, 1);
        }
        Matcher used = Pattern.compile("\\b(Math|Integer|Long|System)\\.(\\w+)").matcher(text);
        while (used.find()) {
            check.due(used.group(), List.of("min", "max", "bitCount", "numberOfTrailingZeros", "arraycopy").contains(used.group(2)) ? 1 : 0, 1);
        }
    }

    /** Rule 11: methods stay short. */
    private static void methods(String text) {
        int length = 0;
        for (String line : text.split("\n")) {
            if (line.matches(" {4}( {4})?[\\w\\[\\] ]+\\([^;]*\\{")) length = 0;
            length++;
            if (line.matches(" {4}( {4})?\\}")) check.due("lines of a method", length <= 60 ? 1 : 0, 1);
        }
    }

    /** Rule 9: each loop counts up by one against a bound, and that stands in its own lines. */
    private static void loops(String text) {
        none(text, "\\bdo\\b");
        Matcher counted = Pattern.compile("\\bfor \\((.*)").matcher(text);
        while (counted.find()) {
            String head = counted.group(1);
            check.due("for (" + head, head.matches("int (\\w+) = [^;]+; \\1 <=? [^;]+; \\1\\+\\+\\) .*") ? 1 : 0, 1);
        }
        Matcher other = Pattern.compile("\n( *)while \\((\\w+)( < .*)").matcher(text);
        int found = 0;
        while (other.find()) {
            found++;
            String lines = other.group(3);
            if (lines.endsWith("{")) lines = text.substring(other.start(), text.indexOf("\n" + other.group(1) + "}", other.end()));
            check.due("while (" + other.group(2) + other.group(3), lines.contains(other.group(2) + "++;") ? 1 : 0, 1);
        }
        check.due("while loops without a counter ahead", text.split("\\bwhile\\b").length - 1 - found, 0);
    }
}
