import java.io.IOException;
import java.lang.reflect.Constructor;
import java.lang.reflect.Field;
import java.lang.reflect.Method;
import java.lang.reflect.Modifier;
import java.nio.file.Files;
import java.nio.file.Path;
import java.util.ArrayList;
import java.util.Arrays;
import java.util.List;
import java.util.TreeSet;
import java.util.regex.Matcher;
import java.util.regex.Pattern;

/** The public face is that of the document, and the source keeps to what LANGUAGE.md forbids by the letter. */
public final class Rules {
    private static int wrong = 0;

    private static void fault(String what) {
        wrong++;
        System.out.println(what);
    }

    private static String face(Method m) {
        StringBuilder s = new StringBuilder(m.getReturnType() + " " + m.getName() + "(");
        for (Class<?> type : m.getParameterTypes()) {
            s.append(type).append(' ');
        }
        return s + ")" + Arrays.toString(m.getExceptionTypes());
    }

    private static final String[] FACE = {
        "int sign 1", "boolean end 1", "int patches 0", "int curve 1", "int link 0", "int picture 0", "int light 2!",
        "int bent 2!", "int sheet 4", "int measure 4", "int forgets 1", "int sets 2", "int paints 4", "int day 0", "int undo 0",
        "int colour 1", "int limited 2", "int match 3", "int fold 3", "int prints 3", "int ramp 2", "int way 3", "int rises 1",
        "int reach 1", "int spread 0", "int odds 4", "int through 1", "int sources 1", "int rounds 1", "int press 1",
        "int cell 2", "int slips 3", "int greys 2", "int replaces 3", "int doubt 0", "int asks 0", "int other 1", "int carry 2",
        "int drifts 2", "boolean keep 1", "boolean again 1", "int count 1", "long row 1!"};

    private static void checkFace() {
        TreeSet<String> due = new TreeSet<>();
        for (String line : FACE) {
            String[] words = line.split(" ");
            int n = words[2].charAt(0) - '0';
            String thrown = words[2].endsWith("!") ? "[class java.util.NoSuchElementException]" : "[]";
            due.add(words[0] + " " + words[1] + "(" + "int ".repeat(n) + ")" + thrown);
        }
        TreeSet<String> is = new TreeSet<>();
        TreeSet<String> publicNames = new TreeSet<>();
        for (Method m : InkFolds.class.getDeclaredMethods()) {
            if (Modifier.isPublic(m.getModifiers())) {
                is.add(face(m));
                publicNames.add(m.getName());
            } else if (!Modifier.isPrivate(m.getModifiers())) {
                fault(m + " is neither public nor private");
            }
        }
        if (!is.equals(due)) {
            fault("the face is " + is + ", due is " + due);
        }
        List<Class<?>> all = new ArrayList<>(List.of(InkFolds.class.getDeclaredClasses()));
        all.add(InkFolds.class);
        for (Class<?> c : all) {
            for (Method m : c.getDeclaredMethods()) {
                boolean isFace = c == InkFolds.class && Modifier.isPublic(m.getModifiers());
                if (!isFace && publicNames.contains(m.getName())) {
                    fault(m + " bears the name of a public one");
                }
                if (m.getParameterCount() > 7) {
                    fault(m + " has more than seven parameters");
                }
            }
            int fields = 0;
            for (Field f : c.getDeclaredFields()) {
                if (Modifier.isStatic(f.getModifiers())) {
                    if (!Modifier.isFinal(f.getModifiers())) {
                        fault(f + " is static and not final");
                    }
                } else {
                    fields++;
                }
                if (c == InkFolds.class && !Modifier.isPrivate(f.getModifiers()) && !f.getName().equals("NONE")) {
                    fault(f + " is not private");
                }
            }
            if (fields > 20) {
                fault(c + " has " + fields + " fields");
            }
            if (c != InkFolds.class && !Modifier.isStatic(c.getModifiers())) {
                fault(c + " is not static");
            }
        }
        Constructor<?>[] made = InkFolds.class.getDeclaredConstructors();
        if (made.length != 1 || !Modifier.isPublic(made[0].getModifiers()) || made[0].getParameterCount() != 0) {
            fault("the constructor is not that of the document");
        }
        if (!Modifier.isFinal(InkFolds.class.getModifiers()) || all.size() > 12) {
            fault("the class is not final, or there are too many classes");
        }
    }

    private static final String[] FORBIDDEN = {
        "->", "::", "\\bassert\\b", "\\bsynchronized\\b", "\\bfinally\\b", "\\bcatch\\b", "\\bdouble\\b", "\\bfloat\\b",
        "\"\\s*\\+", "\\+\\s*\"", "\\+=\\s*\"", "\\.hashCode\\b", "\\bSystem\\.(?!arraycopy)", "\\bObject\\b", "\\bvar\\b",
        "Exact\\(", "\\bInteger\\.MAX", "\\bLong\\.MAX", "\\bthrow new (?!NoSuchElementException\\(\\))", "\\bThread\\b",
        "Arrays\\.(?!fill|copyOf)", "Math\\.(?!max|min|abs|floor)", "\\bstatic \\{"};

    private static void checkSource(String source) {
        for (char c : source.toCharArray()) {
            if (c > 126 || c < 32 && c != '\n') {
                fault("the source has the sign " + (int) c);
            }
        }
        String code = source.replaceAll("(?s)/\\*.*?\\*/", "").replaceAll("//[^\n]*", "");
        for (String forbidden : FORBIDDEN) {
            if (Pattern.compile(forbidden).matcher(code).find()) {
                fault("the source has " + forbidden);
            }
        }
        Matcher imports = Pattern.compile("import ([^;]*);").matcher(code);
        while (imports.find()) {
            if (!List.of("java.util.Arrays", "java.util.NoSuchElementException").contains(imports.group(1))) {
                fault("the source imports " + imports.group(1));
            }
        }
        checkLengths(source);
    }

    /** A method begins with a line that ends in { behind ), at the depth of members, and ends with its } there. */
    private static void checkLengths(String source) {
        Matcher method = Pattern.compile("(?m)^( {4}| {8})(\\w[^\n;=]*\\)[^\n;=]*) \\{\n(?s:.*?)^\\1\\}$").matcher(source);
        int found = 0;
        while (method.find()) {
            found++;
            if (method.group().split("\n").length > 60) {
                fault(method.group(2) + " has more than 60 lines");
            }
            checkRecursion(method.group(2), method.group());
        }
        if (found < 100) {
            fault("only " + found + " methods were found");
        }
    }

    /** Only a private static method may call itself, with the depth as an argument (rule 8). */
    private static void checkRecursion(String head, String method) {
        Matcher name = Pattern.compile("(\\w+)\\(").matcher(head);
        String body = method.substring(method.indexOf('{') + 1);
        if (!name.find() || !Pattern.compile("(?<![.\\w]|new )" + name.group(1) + "\\(").matcher(body).find()) {
            return;
        }
        if (!head.startsWith("private static ") || !head.contains("int depth")) {
            fault(head + " calls itself");
        }
    }

    public static void main(String[] args) throws IOException {
        checkFace();
        checkSource(Files.readString(Path.of("src/main/java/InkFolds.java")));
        System.out.println(wrong == 0 ? "all rules are kept" : wrong + " rules are broken");
        if (wrong != 0) {
            System.exit(1);
        }
    }
}
