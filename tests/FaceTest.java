import java.io.IOException;
import java.lang.reflect.Constructor;
import java.lang.reflect.Field;
import java.lang.reflect.Method;
import java.lang.reflect.Modifier;
import java.nio.file.Files;
import java.nio.file.Path;
import java.util.Arrays;
import java.util.Set;
import java.util.TreeSet;
import java.util.regex.Matcher;
import java.util.regex.Pattern;

/** The class has the document's face and no other one, and keeps to those rules of LANGUAGE.md that can be looked up. */
public final class FaceTest {
    private static Path shared(String name) {
        return Path.of("..", "shared", name);
    }

    /** The lines of the document's face, as "type name(types) exceptions". */
    private static Set<String> wanted() throws IOException {
        Set<String> lines = new TreeSet<>();
        String doc = Files.readString(shared("DOC.md"));
        String face = doc.substring(doc.indexOf("```java"), doc.indexOf("```", doc.indexOf("```java") + 7));
        Matcher m = Pattern.compile("public (\\w+) (\\w+)\\(([^)]*)\\)( throws ([^;]*))?;").matcher(face);
        while (m.find()) {
            String types = m.group(3).replaceAll("(\\w+) \\w+(, )?", "$1 ").trim();
            String thrown = m.group(5) == null ? "" : m.group(5).replace(", ", " ");
            lines.add(m.group(1) + " " + m.group(2) + "(" + types + ") " + thrown);
        }
        return lines;
    }

    private static Set<String> found() {
        Set<String> lines = new TreeSet<>();
        for (Method m : Bundlesale.class.getDeclaredMethods()) {
            if (Modifier.isPublic(m.getModifiers())) {
                lines.add(m.getReturnType().getSimpleName() + " " + m.getName() + "(" + names(m.getParameterTypes())
                    + ") " + names(m.getExceptionTypes()));
            }
        }
        return lines;
    }

    private static String names(Class<?>[] types) {
        StringBuilder text = new StringBuilder();
        for (Class<?> type : types) {
            text.append(text.length() == 0 ? "" : " ").append(type.getSimpleName());
        }
        return text.toString();
    }

    private static void face() throws IOException {
        Check.due("face: methods", found(), wanted());
        Check.due("face: 50 methods", wanted().size(), 50);
        Check.due("face: public and final", Bundlesale.class.getModifiers(), Modifier.PUBLIC | Modifier.FINAL);
        Constructor<?>[] makers = Bundlesale.class.getDeclaredConstructors();
        Check.due("face: one constructor", makers.length, 1);
        Check.due("face: without arguments", makers[0].getParameterCount(), 0);
        Set<String> open = new TreeSet<>();
        for (Method m : Bundlesale.class.getDeclaredMethods()) {
            if (Modifier.isPublic(m.getModifiers())) open.add(m.getName());
        }
        for (Class<?> each : Bundlesale.class.getDeclaredClasses()) {
            Check.due("face: static " + each, Modifier.isStatic(each.getModifiers()), true);
            Check.due("face: not open " + each,
                Modifier.isPublic(each.getModifiers()) || Modifier.isProtected(each.getModifiers()), false);
            for (Method m : each.getDeclaredMethods()) {
                Check.due("rule 1: " + each + " " + m.getName(), open.contains(m.getName()), false);
            }
            fields(each);
        }
        for (Method m : Bundlesale.class.getDeclaredMethods()) {
            if (!Modifier.isPublic(m.getModifiers())) {
                Check.due("rule 1: private " + m.getName(), Modifier.isPrivate(m.getModifiers()), true);
                Check.due("rule 1: the name of " + m.getName(), open.contains(m.getName()), false);
            }
            Check.due("rule 11: parameters of " + m.getName(), m.getParameterCount() <= 7, true);
        }
        fields(Bundlesale.class);
        for (Field f : Bundlesale.class.getDeclaredFields()) {
            Check.due("rule 1: private " + f.getName(), Modifier.isPrivate(f.getModifiers()), true);
        }
        Check.due("rule 11: classes", Bundlesale.class.getDeclaredClasses().length <= 12, true);
    }

    private static void fields(Class<?> each) {
        int many = 0;
        for (Field f : each.getDeclaredFields()) {
            if (Modifier.isStatic(f.getModifiers())) {
                Check.due("rule 5: final " + f.getName(), Modifier.isFinal(f.getModifiers()), true);
            } else {
                many++;
            }
        }
        Check.due("rule 11: fields of " + each, many <= 20, true);
    }

    private static void words() throws IOException {
        String text = Files.readString(Path.of("src", "main", "java", "Bundlesale.java"));
        String code = text.replaceAll("(?s)/\\*.*?\\*/", "").replaceAll("//[^\n]*", "");
        String[] banned = {"\\bimport\\b", "\\bpackage\\b", "\\bcatch\\b", "\\btry\\b", "\\bfinally\\b", "->", "::",
            "\\bassert\\b", "\\bsynchronized\\b", "\\bThread\\b", "\\bRandom\\b", "\\bfloat\\b", "\\bdouble\\b",
            "\\bexec\\b", "Exact\\b", "System\\.(?!arraycopy)", "\\bhashCode\\b", "\\bequals\\(", "String\\.format",
            "Math\\.(?!min|max|abs)", "Integer\\.(?!bitCount|compare)", "\"\\s*\\+", "\\+\\s*\""};
        for (String word : banned) {
            Check.due("words: " + word, Pattern.compile(word).matcher(code).find(), false);
        }
        for (char c : text.toCharArray()) {
            if (c > 126) {
                Check.due("words: sign", (int) c, 126);
            }
        }
        for (String line : text.split("\n")) {
            if (line.length() > 120) {
                Check.due("words: a long line", line, Arrays.toString(new int[] {line.length()}));
            }
        }
    }

    private static void lengths() throws IOException {
        String name = "";
        int lines = 0;
        for (String line : Files.readString(Path.of("src", "main", "java", "Bundlesale.java")).split("\n")) {
            lines++;
            if (line.matches(" {4}(?: {4})?(?:[a-z]+ )*[\\w\\[\\]]+ \\w+\\(.*") && !line.contains(";")) {
                name = line.trim();
                lines = 1;
            }
            if (line.matches(" {4}(?: {4})?\\}") && !name.isEmpty()) {
                Check.due("rule 11: lines of " + name, lines <= 60, true);
                name = "";
            }
        }
    }

    public static void main(String[] args) throws IOException {
        face();
        words();
        lengths();
        Check.end("FaceTest");
    }
}
