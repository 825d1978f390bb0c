import java.lang.reflect.Constructor;
import java.lang.reflect.Field;
import java.lang.reflect.Method;
import java.lang.reflect.Modifier;
import java.nio.file.Files;
import java.nio.file.Path;
import java.util.ArrayList;
import java.util.List;
import java.util.Set;
import java.util.TreeSet;
import java.util.regex.Matcher;
import java.util.regex.Pattern;

/** Holds the class against the document's face and against those rules of LANGUAGE.md that show. */
public final class LanguageTests {
    private static final String[] FACE = {
        "int sign(int)", "int rank(int)", "int put(int)", "int drop()", "int at(int)",
        "int tongue(int)", "int rule(int,int,int,int,int)", "int last(int,int,boolean)",
        "int of(int,int,int)", "int not(int)", "int renamed(int,int)", "int back(int,int)",
        "int parts(int)", "int within(int)", "int grafted(int,int,int)", "int undo()",
        "int classes(int)", "int go(int,int,int,int)", "int isLast(int,int)", "int size(int,int)",
        "int classOf(int)", "int has(int)", "int least(int)", "int unlike(int,int)",
        "int ends(int)", "long count(int,int)", "int tree(int,long)", "long place(int)",
        "int told(int)"};
    private static final Set<String> IMPORTS = Set.of("java.util.Arrays", "java.util.ArrayList",
            "java.util.List", "java.util.Iterator");
    private static final Pattern WORD = Pattern.compile("[A-Za-z_$][A-Za-z0-9_$]*");
    private static final Set<String> FORBIDDEN = Set.of("throw", "throws", "try", "catch",
            "finally", "synchronized", "assert", "volatile", "native", "Thread", "Random", "equals",
            "hashCode", "toString", "Object", "Map", "HashMap", "Set", "Collections", "Exception");
    private static int wrong = 0;

    public static void main(String[] args) throws Exception {
        Path root = Path.of(args.length > 0 ? args[0] : ".");
        checkFace();
        checkClasses();
        checkSource(Files.readString(root.resolve("src/main/java/TreeTongues.java")));
        System.out.println(wrong == 0 ? "the language is kept" : wrong + " faults");
        if (wrong != 0) {
            System.exit(1);
        }
    }

    private static void fault(String what) {
        wrong++;
        System.out.println(what);
    }

    private static void checkFace() {
        Set<String> want = new TreeSet<>(List.of(FACE));
        Set<String> got = new TreeSet<>();
        for (Method m : TreeTongues.class.getDeclaredMethods()) {
            if (Modifier.isPublic(m.getModifiers())) {
                got.add(asText(m));
            } else if (!Modifier.isPrivate(m.getModifiers())) {
                fault("not private: " + m);
            }
        }
        if (!got.equals(want)) {
            fault("the face is " + got + ", due is " + want);
        }
        Set<String> constants = new TreeSet<>();
        for (Field f : TreeTongues.class.getDeclaredFields()) {
            if (Modifier.isPublic(f.getModifiers())) {
                constants.add(f.getName());
            } else if (!Modifier.isPrivate(f.getModifiers())) {
                fault("not private: " + f);
            }
        }
        if (!constants.equals(Set.of("NONE", "BAD", "NOT", "FULL", "LARGE"))) {
            fault("the constants are " + constants);
        }
        Constructor<?>[] makers = TreeTongues.class.getDeclaredConstructors();
        if (makers.length != 1 || makers[0].getParameterCount() != 0
                || !Modifier.isPublic(makers[0].getModifiers())) {
            fault("there is to be one public constructor without parameters");
        }
        if (!Modifier.isFinal(TreeTongues.class.getModifiers())) {
            fault("the class is to be final");
        }
    }

    private static String asText(Method m) {
        List<String> types = new ArrayList<>();
        for (Class<?> c : m.getParameterTypes()) {
            types.add(c.getName());
        }
        return m.getReturnType().getName() + " " + m.getName() + "(" + String.join(",", types) + ")";
    }

    private static void checkClasses() {
        List<Class<?>> all = new ArrayList<>(List.of(TreeTongues.class.getDeclaredClasses()));
        for (Class<?> c : all) {
            if (!Modifier.isStatic(c.getModifiers()) || Modifier.isPublic(c.getModifiers())) {
                fault("not static, or public: " + c);
            }
        }
        all.add(TreeTongues.class);
        if (all.size() > 12) {
            fault("more than twelve classes");
        }
        Set<String> names = new TreeSet<>();
        for (String f : FACE) {
            names.add(f.substring(f.indexOf(' ') + 1, f.indexOf('(')));
        }
        for (Class<?> c : all) {
            int fields = 0;
            for (Field f : c.getDeclaredFields()) {
                boolean isStatic = Modifier.isStatic(f.getModifiers());
                fields += isStatic ? 0 : 1;
                if (isStatic && !Modifier.isFinal(f.getModifiers())) {
                    fault("static and not final: " + f);
                }
            }
            if (fields > 20) {
                fault("more than twenty fields: " + c);
            }
            for (Method m : c.getDeclaredMethods()) {
                if (m.getParameterCount() > 7) {
                    fault("more than seven parameters: " + m);
                }
                if (!Modifier.isPublic(m.getModifiers()) && names.contains(m.getName())) {
                    fault("named as a public method: " + m);
                }
            }
        }
    }

    private static void checkSource(String source) {
        String code = source.replaceAll("(?s)/\\*.*?\\*/", " ").replaceAll("//[^\n]*", " ");
        Matcher words = WORD.matcher(code);
        while (words.find()) {
            if (FORBIDDEN.contains(words.group())) {
                fault("a word that is not allowed: " + words.group());
            }
        }
        if (code.contains("->") || code.contains("::")) {
            fault("a lambda or a method reference");
        }
        Matcher imports = Pattern.compile("import\\s+([^;]+);").matcher(code);
        while (imports.find()) {
            if (!IMPORTS.contains(imports.group(1).trim())) {
                fault("imported: " + imports.group(1));
            }
        }
        if (Pattern.compile("\\bpackage\\s").matcher(code).find()) {
            fault("a package line");
        }
        for (char c : source.toCharArray()) {
            if (c > 126) {
                fault("a sign above 126");
                break;
            }
        }
        checkLengths(source);
    }

    private static void checkLengths(String source) {
        String[] lines = source.split("\n");
        Pattern head = Pattern.compile("^ {4}( {4})?[a-z][^=;/*]*\\) \\{$|^ {4}( {4})?[a-z].*,$");
        for (int i = 0; i < lines.length; i++) {
            if (lines[i].length() > 100) {
                fault("a line of more than 100 signs: " + (i + 1));
            }
            if (head.matcher(lines[i]).find()) {
                String indent = lines[i].substring(0, lines[i].length() - lines[i].stripLeading()
                        .length());
                int end = i;
                while (end < lines.length - 1 && !lines[end].equals(indent + "}")) {
                    end++;
                }
                if (end - i > 60) {
                    fault("a method of more than sixty lines: " + (i + 1));
                }
            }
        }
    }
}
