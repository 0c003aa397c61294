import java.lang.reflect.Field;
import java.lang.reflect.Method;
import java.lang.reflect.Modifier;
import java.nio.file.Files;
import java.nio.file.Path;
import java.util.TreeSet;
import java.util.regex.Matcher;
import java.util.regex.Pattern;

/** Those rules of LANGUAGE.md that a look at the class and at its source can tell. */
public final class LanguageRules {
    private static final String[] FACE = {
        "int buffer()", "int cell(int,int)", "int crash()", "int cursor()", "int file()", "int held(int,int)",
        "int key(int)", "int length(int)", "int letter(int,int)", "int lines()", "int mode()", "boolean resize(int)",
        "int sent()", "int stored(int,int)", "int sync()", "int top()",
    };
    /** What a rule refuses, as a regular expression over the source without its comments. */
    private static final String[][] REFUSED = {
        {"1", "\\bpackage\\b|\\bprotected\\b"},
        {"2", "(?m)^(?!\\s*(case|default)\\b).*->|::"},
        {"3", "\\b(Object|Map|Set|HashMap|HashSet|Long|Character|Optional|Stream|BigInteger) \\w+|\\[\\]\\[\\]\\["},
        {"4", "\\bimport (?!java\\.util\\.(Arrays|ArrayList|List|Iterator);)|\\bString\\.\\w+\\(|\\.split\\(|Exact\\("},
        {"4", "\\bSystem\\.(?!arraycopy\\()|\\bArrays\\.(?!(copyOf|copyOfRange|fill)\\()"},
        {"5", "static \\{|static (?!final|class|record|enum|interface|abstract)[\\w\\[\\]]+ \\w+( =|;)"},
        {"6", "\\b(throw|throws|try|catch|synchronized|assert)\\b|\\.hashCode\\("},
        {"13", "\\b(Random|Thread|Runtime|Process|File|Files|Socket)\\b|Math\\.random"},
    };
    private static int wrong = 0;

    private static void refuse(String why) {
        wrong++;
        System.out.println(why);
    }

    private static void checkFace() {
        TreeSet<String> due = new TreeSet<>();
        for (String method : FACE) {
            due.add(method);
        }
        TreeSet<String> found = new TreeSet<>();
        TreeSet<String> names = new TreeSet<>();
        for (Method m : KeyScreen.class.getDeclaredMethods()) {
            if (Modifier.isPublic(m.getModifiers())) {
                StringBuilder told = new StringBuilder(m.getReturnType() + " " + m.getName() + "(");
                for (int i = 0; i < m.getParameterCount(); i++) {
                    told.append(i == 0 ? "" : ",").append(m.getParameterTypes()[i]);
                }
                found.add(told + ")");
                names.add(m.getName());
            }
        }
        if (!found.equals(due)) {
            refuse("rule 1: the face is " + found);
        }
        for (Method m : KeyScreen.class.getDeclaredMethods()) {
            if (!Modifier.isPublic(m.getModifiers())
                    && (!Modifier.isPrivate(m.getModifiers()) || names.contains(m.getName()))) {
                refuse("rule 1: " + m);
            }
        }
        for (Field f : KeyScreen.class.getDeclaredFields()) {
            if (!Modifier.isPrivate(f.getModifiers())) {
                refuse("rule 1: " + f);
            }
        }
        if (KeyScreen.class.getConstructors().length != 1 || !Modifier.isFinal(KeyScreen.class.getModifiers())) {
            refuse("rule 1: the constructor or the class");
        }
    }

    private static void checkClasses() {
        Class<?>[] inside = KeyScreen.class.getDeclaredClasses();
        if (inside.length > 12) {
            refuse("rule 11: " + inside.length + " classes");
        }
        for (Class<?> c : inside) {
            if (!Modifier.isStatic(c.getModifiers())) {
                refuse("rule 2: " + c);
            }
            int fields = 0;
            for (Field f : c.getDeclaredFields()) {
                if (!Modifier.isStatic(f.getModifiers())) {
                    fields++;
                } else if (!Modifier.isFinal(f.getModifiers())) {
                    refuse("rule 5: " + f);
                }
            }
            if (fields > 20) {
                refuse("rule 11: " + c + " has " + fields + " fields");
            }
            for (Method m : c.getDeclaredMethods()) {
                if (m.getParameterCount() > 7) {
                    refuse("rule 11: " + m);
                }
            }
        }
    }

    private static void checkSource() throws Exception {
        String source = Files.readString(Path.of("src/main/java/KeyScreen.java"));
        String bare = source.replaceAll("(?s)/\\*.*?\\*/", "").replaceAll("//.*", "");
        for (String[] refused : REFUSED) {
            Matcher m = Pattern.compile(refused[1]).matcher(bare);
            if (m.find()) {
                refuse("rule " + refused[0] + ": " + m.group());
            }
        }
        int length = 0;
        for (String line : source.split("\n")) {
            length = line.matches(" {4}( {4})?[A-Za-z].*\\) \\{") ? 0 : length + 1;
            if (length > 60 && line.matches(" {4}( {4})?}")) {
                refuse("rule 11: a method of " + length + " lines");
            }
            if (line.matches(" {4}( {4})?}.*")) {
                length = 0;
            }
        }
    }

    public static void main(String[] args) throws Exception {
        checkFace();
        checkClasses();
        checkSource();
        System.out.println(wrong == 0 ? "the rules are kept" : wrong + " rules are broken");
        if (wrong != 0) {
            System.exit(1);
        }
    }
}
