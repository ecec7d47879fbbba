import java.lang.reflect.Field;
import java.lang.reflect.Method;
import java.lang.reflect.Modifier;
import java.nio.file.Files;
import java.nio.file.Path;
import java.util.ArrayList;
import java.util.List;
import java.util.Set;
import java.util.TreeSet;
import java.util.regex.Matcher;
import java.util.regex.Pattern;

/** The rules of ../shared/LANGUAGE.md that can be seen from the text and from the classes. */
public final class LanguageTest {
    private static final Checks c = new Checks("LanguageTest");
    private static final String[] FACE = {"int days int", "int firm int", "boolean merge int int int",
        "int firmOn int int", "int person int int int int int", "boolean dies int int", "boolean moves int int",
        "int account int int int int", "boolean act int int int int", "boolean grow int int int int",
        "long sum int int int", "int feed int int int int int", "boolean end int", "int reads int", "int fault int",
        "int told int int", "int sleep int int int", "int report int", "long held int int", "int points int int",
        "int join int int", "int joined int int int", "int heirs int", "long share int int int",
        "int claim int int int int", "long claimOf int int", "long pay int", "long back int",
        "boolean figure int int int", "boolean costs int int", "int audit int int", "int looks int int int int",
        "long look int"};

    public static void main(String[] args) throws Exception {
        String source = Files.readString(Path.of("src/main/java/SleepOffice.java"));
        face();
        members();
        words(bare(source));
        methods(bare(source));
        c.finish();
    }

    private static void face() throws Exception {
        Set<String> found = new TreeSet<>();
        for (Method m : SleepOffice.class.getDeclaredMethods()) {
            if (!Modifier.isPrivate(m.getModifiers())) {
                StringBuilder text = new StringBuilder(m.getReturnType() + " " + m.getName());
                for (Class<?> type : m.getParameterTypes()) {
                    text.append(' ').append(type);
                }
                found.add(text.toString());
            }
        }
        c.due("the face " + found, found.equals(new TreeSet<>(List.of(FACE))), true);
        c.due("constructors", SleepOffice.class.getConstructors().length, 1);
        c.due("all constructors", SleepOffice.class.getDeclaredConstructors().length, 1);
        c.due("NONE", SleepOffice.NONE, -1);
        c.due("final", Modifier.isFinal(SleepOffice.class.getModifiers()), true);
        for (Field f : SleepOffice.class.getDeclaredFields()) {
            c.due("private " + f.getName(), Modifier.isPrivate(f.getModifiers()), !f.getName().equals("NONE"));
        }
    }

    private static void members() {
        Set<String> names = new TreeSet<>();
        for (String line : FACE) {
            names.add(line.split(" ")[1]);
        }
        List<Class<?>> all = new ArrayList<>(List.of(SleepOffice.class.getDeclaredClasses()));
        for (Class<?> one : all) {
            c.due(one + " is static", Modifier.isStatic(one.getModifiers()), true);
        }
        all.add(SleepOffice.class);
        c.due("classes, " + all.size(), all.size() <= 12, true);
        for (Class<?> one : all) {
            int own = 0;
            for (Field f : one.getDeclaredFields()) {
                boolean isStatic = Modifier.isStatic(f.getModifiers());
                own += isStatic ? 0 : 1;
                c.due(f + " is final", !isStatic || Modifier.isFinal(f.getModifiers()), true);
            }
            c.due(one + " has " + own + " fields", own <= 20, true);
            for (Method m : one.getDeclaredMethods()) {
                boolean shown = Modifier.isPublic(m.getModifiers());
                c.due(m + " has a name of its own", shown || !names.contains(m.getName()), true);
                c.due(m + " has few parameters", m.getParameterCount() <= 7, true);
            }
        }
    }

    /** The text without comments, and with every text constant emptied. */
    private static String bare(String source) {
        String text = source.replaceAll("(?s)/\\*.*?\\*/", " ").replaceAll("//[^\n]*", " ");
        return text.replaceAll("\"[^\"\n]*\"", "\"\"").replaceAll("'[^'\n]+'", "' '");
    }

    private static void words(String text) {
        String[] never = {"throw", "throws", "try", "catch", "finally", "synchronized", "assert", "var", "record",
            "Object", "Math\\.\\w+Exact", "System", "Random", "Thread", "equals", "hashCode", "toString", "volatile",
            "double", "float", "yield", "goto", "import static"};
        for (String word : never) {
            Matcher m = Pattern.compile("\\b" + word + "\\b").matcher(text);
            c.due("the word " + word, m.find(), false);
        }
        for (String sign : new String[] {"->", "::", "@", "static {", "\"\" +", "+ \"\"", "[][]"}) {
            c.due("the sign " + sign, text.contains(sign), false);
        }
        Matcher imports = Pattern.compile("import ([\\w.*]+);").matcher(text);
        while (imports.find()) {
            boolean known = Set.of("java.util.ArrayList", "java.util.List", "java.util.Arrays")
                .contains(imports.group(1));
            c.due("import " + imports.group(1), known, true);
        }
        for (char sign : text.toCharArray()) {
            c.due("sign " + (int) sign, sign == '\n' || sign >= ' ' && sign < 127, true);
        }
    }

    /** Methods stand between a line that opens with a name and brackets and the brace at the same indent. */
    private static void methods(String text) {
        String[] lines = text.split("\n");
        Pattern head = Pattern.compile("^( +)(?:public |private |static |final )*[\\w<>\\[\\]]+ ?\\w*\\(.*\\{$");
        for (int i = 0; i < lines.length; i++) {
            Matcher m = head.matcher(lines[i]);
            boolean isHead = m.find() && !lines[i].matches(" *(if|for|while|switch|\\}|else|do|return).*");
            if (isHead) {
                int end = i;
                while (end < lines.length && !lines[end].equals(m.group(1) + "}")) {
                    end++;
                }
                c.due(lines[i].trim() + " has " + (end - i) + " lines", end - i <= 60, true);
            }
        }
    }
}
