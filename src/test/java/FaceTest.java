import java.io.IOException;
import java.lang.reflect.Constructor;
import java.lang.reflect.Field;
import java.lang.reflect.Method;
import java.lang.reflect.Modifier;
import java.nio.file.Files;
import java.nio.file.Path;
import java.util.HashSet;
import java.util.Set;
import java.util.TreeSet;
import java.util.regex.Matcher;
import java.util.regex.Pattern;

/** The class has the face of the document and no other, and what LANGUAGE.md rules out is not in its text. */
public final class FaceTest {
    private static final Path DOC = Path.of("../shared/DOC.md");
    private static final Path SOURCE = Path.of("src/main/java/QuotientSums.java");
    private static final String[] RULED_OUT = {
        "\\bcatch\\b", "\\btry\\b", "\\bfinally\\b", "\\bsynchronized\\b", "\\bassert\\b", "->", "::", "\\w+Exact\\b",
        "\\bMath\\.(sqrt|cbrt|pow|floor|ceil|round|random)\\b", "\\bdouble\\b", "\\bfloat\\b", "\\bSystem\\.(out|nanoTime|current)",
        "\\bRandom\\b", "\\bpackage\\b", "\\bstatic \\{", "\\bprotected\\b", "\\[\\]\\[\\]\\[\\]", "\\bvar\\b", "\\bStringBuilder\\b"};

    private FaceTest() {
    }

    public static void main(String[] args) throws IOException {
        Set<String> due = new TreeSet<>();
        Matcher m = Pattern.compile("^    public (\\w+) (\\w+)\\(([^)]*)\\)( throws [\\w, ]+)?;", Pattern.MULTILINE)
            .matcher(Files.readString(DOC));
        while (m.find()) {
            String types = m.group(3).replaceAll("(\\w+) \\w+", "$1").replace(" ", "");
            String thrown = m.group(4) == null ? "" : m.group(4).replaceFirst(" throws ", "").replace(" ", "");
            due.add(m.group(1) + " " + m.group(2) + "(" + types + ") " + thrown);
        }
        Check.due("methods in the document", due.size(), 36);
        same("methods", methods(), due);
        Check.due("final", Modifier.isFinal(QuotientSums.class.getModifiers()), true);
        fieldsAndConstructors();
        for (Class<?> inside : QuotientSums.class.getDeclaredClasses()) {
            fewFields(inside);
        }
        fewFields(QuotientSums.class);
        source();
        shortMethods();
        Check.finish("FaceTest");
    }

    private static void same(String what, Set<String> got, Set<String> want) {
        if (!got.equals(want)) {
            System.out.println(what + " are " + got + ", due are " + want);
            Check.due(what, 1, 0);
        }
    }

    private static Set<String> methods() {
        Set<String> all = new TreeSet<>();
        Set<String> open = new HashSet<>();
        for (Method method : QuotientSums.class.getDeclaredMethods()) {
            if (Modifier.isPrivate(method.getModifiers())) {
                continue;
            }
            open.add(method.getName());
            StringBuilder types = new StringBuilder();
            for (Class<?> type : method.getParameterTypes()) {
                types.append(types.length() == 0 ? "" : ",").append(type.getSimpleName());
            }
            StringBuilder thrown = new StringBuilder();
            for (Class<?> type : method.getExceptionTypes()) {
                thrown.append(thrown.length() == 0 ? "" : ",").append(type.getSimpleName());
            }
            all.add(method.getReturnType().getSimpleName() + " " + method.getName() + "(" + types + ") " + thrown);
        }
        noSameNames(QuotientSums.class, open);
        for (Class<?> inside : QuotientSums.class.getDeclaredClasses()) {
            Check.due(inside + " is static", Modifier.isStatic(inside.getModifiers()), true);
            Check.due(inside + " is not public", Modifier.isPublic(inside.getModifiers()), false);
            noSameNames(inside, open);
        }
        Check.due("classes", QuotientSums.class.getDeclaredClasses().length <= 11, true);
        return all;
    }

    private static void noSameNames(Class<?> where, Set<String> open) {
        for (Method method : where.getDeclaredMethods()) {
            boolean inFace = where == QuotientSums.class && Modifier.isPublic(method.getModifiers());
            Check.due(where + "." + method.getName() + " has a name of the face", !inFace && open.contains(method.getName()), false);
            Check.due(method + " has few parameters", method.getParameterCount() <= 7, true);
        }
    }

    private static void fieldsAndConstructors() {
        for (Field field : QuotientSums.class.getDeclaredFields()) {
            boolean isNone = field.getName().equals("NONE");
            Check.due(field + " is open", Modifier.isPrivate(field.getModifiers()), !isNone);
            if (Modifier.isStatic(field.getModifiers())) {
                Check.due(field + " is final", Modifier.isFinal(field.getModifiers()), true);
            }
        }
        Check.due("NONE", QuotientSums.NONE, -1);
        Constructor<?>[] all = QuotientSums.class.getDeclaredConstructors();
        Check.due("constructors", all.length, 1);
        Check.due("open constructor", Modifier.isPublic(all[0].getModifiers()) && all[0].getParameterCount() == 0, true);
    }

    /** Rules 5 and 11: what is static is final, and the rest is at most twenty. */
    private static void fewFields(Class<?> where) {
        int held = 0;
        for (Field field : where.getDeclaredFields()) {
            boolean isStatic = Modifier.isStatic(field.getModifiers());
            held += isStatic ? 0 : 1;
            Check.due(field + " changes", isStatic && !Modifier.isFinal(field.getModifiers()), false);
        }
        Check.due(where + " has few fields", held <= 20, true);
    }

    /** Rule 11, told by how far a method's braces stand in: 4 in the class, 8 in the classes inside. */
    private static void shortMethods() throws IOException {
        String begun = "";
        int from = 0;
        int methods = 0;
        int at = 0;
        for (String line : Files.readAllLines(SOURCE)) {
            at++;
            String start = line.substring(0, line.length() - line.stripLeading().length());
            boolean deep = start.length() == 4 || start.length() == 8;
            if (deep && line.endsWith(") {") && line.matches(" +(public |private )?(static )?[\\w\\[\\]]+( \\w+)?\\(.*")
                && !line.matches(" +(if|for|while|switch) .*")) {
                begun = start;
                from = at;
                methods++;
            } else if (from > 0 && line.equals(begun + "}")) {
                Check.due("the method at line " + from + " is short", at - from < 60, true);
                from = 0;
            }
        }
        Check.due("methods have been found", methods >= 100, true);
    }

    private static void source() throws IOException {
        String text = Files.readString(SOURCE).replaceAll("/\\*(?s:.*?)\\*/", "").replaceAll("//.*", "");
        for (String ruledOut : RULED_OUT) {
            Matcher m = Pattern.compile(ruledOut).matcher(text);
            if (m.find()) {
                Check.due("the source has " + m.group(), 1, 0);
            }
        }
        Matcher imports = Pattern.compile("import ([\\w.]+);").matcher(text);
        while (imports.find()) {
            String name = imports.group(1);
            boolean fine = name.equals("java.util.Arrays") || name.equals("java.util.NoSuchElementException");
            Check.due("import " + name, fine, true);
        }
    }
}
