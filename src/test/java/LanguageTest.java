import java.io.IOException;
import java.lang.reflect.Constructor;
import java.lang.reflect.Field;
import java.lang.reflect.Member;
import java.lang.reflect.Method;
import java.lang.reflect.Modifier;
import java.nio.file.Files;
import java.nio.file.Path;
import java.util.HashSet;
import java.util.List;
import java.util.Set;
import java.util.StringJoiner;
import java.util.TreeSet;
import java.util.regex.Matcher;
import java.util.regex.Pattern;

/** The face that the document gives, and the rules of ../shared/LANGUAGE.md that a look at the source can tell. */
final class LanguageTest {
    private static final List<String> LIBRARY = List.of("Arrays.fill", "Arrays.copyOf", "Arrays.copyOfRange",
            "System.arraycopy");
    private static final List<String> IMPORTS = List.of("java.util.Arrays", "java.util.ArrayList", "java.util.List",
            "java.util.Iterator", "java.util.NoSuchElementException");
    private static final String EXCEPTIONS = "(IllegalState|IllegalArgument|IndexOutOfBounds|Arithmetic"
            + "|UnsupportedOperation|NoSuchElement|Runtime)Exception";

    public static void main(String[] args) throws IOException {
        String source = Files.readString(Path.of("src/main/java/HomBench.java"));
        face(Files.readString(Path.of("../shared/DOC.md")), source);
        members();
        privateNames();
        words(withoutComments(source));
        library(withoutComments(source));
        Check.finish("LanguageTest");
    }

    private static void face(String document, String source) {
        String block = document.substring(document.indexOf("```java"), document.indexOf("## Description"));
        Set<String> due = new TreeSet<>();
        for (String line : block.split("\n")) {
            String member = line.strip();
            if (member.startsWith("public ") && member.endsWith(");") || member.contains(" throws ")) {
                due.add(member.replace(";", "").replaceAll("(int|long|boolean) \\w+(?=[,)])", "$1"));
            }
        }
        Check.due("calls of the face", 35, due.size());
        Check.due("the face", due, publicCalls());
        Check.due("NONE", true, Modifier.isFinal(field("NONE")) && Modifier.isStatic(field("NONE")));
        Check.due("one public class", 1, withoutComments(source).split("\\bpublic [a-z ]*class\\b").length - 1);
        Check.due("nothing is protected", false, withoutComments(source).contains("protected"));
        Check.due("no package", false, Pattern.compile("^package", Pattern.MULTILINE).matcher(source).find());
    }

    private static int field(String name) {
        for (Field field : HomBench.class.getFields()) {
            if (field.getName().equals(name)) {
                return field.getModifiers();
            }
        }
        return 0;
    }

    private static Set<String> publicCalls() {
        Set<String> calls = new TreeSet<>();
        for (Constructor<?> constructor : HomBench.class.getConstructors()) {
            calls.add("public HomBench" + list("(", constructor.getParameterTypes(), ")")
                    + list(" throws ", constructor.getExceptionTypes(), ""));
        }
        for (Method method : HomBench.class.getDeclaredMethods()) {
            if (Modifier.isPublic(method.getModifiers())) {
                String kind = Modifier.isStatic(method.getModifiers()) ? "public static " : "public ";
                calls.add(kind + method.getReturnType() + " " + method.getName()
                        + list("(", method.getParameterTypes(), ")")
                        + list(" throws ", method.getExceptionTypes(), ""));
            }
        }
        return calls;
    }

    private static String list(String before, Class<?>[] types, String after) {
        StringJoiner names = new StringJoiner(", ", before, after).setEmptyValue("(".equals(before) ? "()" : "");
        for (Class<?> type : types) {
            names.add(type.getSimpleName());
        }
        return names.toString();
    }

    private static void members() {
        for (Field field : HomBench.class.getDeclaredFields()) {
            publicOrPrivate(field);
        }
        for (Method method : HomBench.class.getDeclaredMethods()) {
            publicOrPrivate(method);
        }
        for (Constructor<?> constructor : HomBench.class.getDeclaredConstructors()) {
            publicOrPrivate(constructor);
        }
        Check.due("final", true, Modifier.isFinal(HomBench.class.getModifiers()));
        Class<?>[] inside = HomBench.class.getDeclaredClasses();
        Check.due("some twelve classes", true, inside.length <= 13);
        for (Class<?> one : inside) {
            Check.due(one + " is static", true, Modifier.isStatic(one.getModifiers()));
            for (Field field : one.getDeclaredFields()) {
                boolean kept = !Modifier.isStatic(field.getModifiers()) || Modifier.isFinal(field.getModifiers());
                Check.due(field + " if static is final", true, kept);
            }
        }
    }

    private static void publicOrPrivate(Member member) {
        int modifiers = member.getModifiers();
        Check.due(member + " is public or private", true,
                Modifier.isPublic(modifiers) || Modifier.isPrivate(modifiers));
    }

    private static void privateNames() {
        Set<String> face = new HashSet<>();
        for (Method method : HomBench.class.getMethods()) {
            face.add(method.getName());
        }
        for (Method method : HomBench.class.getDeclaredMethods()) {
            if (!Modifier.isPublic(method.getModifiers())) {
                Check.due(method + " has a name of its own", false, face.contains(method.getName()));
            }
        }
        for (Class<?> one : HomBench.class.getDeclaredClasses()) {
            for (Method method : one.getDeclaredMethods()) {
                boolean hidden = Modifier.isPrivate(method.getModifiers());
                Check.due(method + " has a name of its own", false, hidden && face.contains(method.getName()));
                Check.due(method + " has at most seven parameters", true, method.getParameterCount() <= 7);
            }
        }
    }

    private static String withoutComments(String source) {
        return source.replaceAll("(?s)/\\*.*?\\*/", "").replaceAll("//[^\n]*", "").replaceAll("\"[^\"\n]*\"", "\"\"");
    }

    private static void words(String code) {
        String[] forbidden = {"::", "finally", "synchronized", "assert", "native", "volatile", "extends Exception",
            "extends RuntimeException", "Thread", "Random", "Runtime", "Class", "getMessage", "printStackTrace"};
        for (String word : forbidden) {
            boolean named = word.chars().allMatch(sign -> Character.isLetter(sign) || sign == ' ');
            String pattern = named ? "\\b" + word + "\\b" : Pattern.quote(word);
            Check.due("the code has " + word, false, Pattern.compile(pattern).matcher(code).find());
        }
        String withoutCases = code.replaceAll("(case [^;{}>]*|default)\\s*->", "");
        Check.due("the code has a lambda", false, withoutCases.contains("->"));
    }

    private static void library(String code) {
        String classes = "(Arrays|System|Integer|Long|Math|String|Character|Byte)";
        Matcher call = Pattern.compile("\\b" + classes + "\\.(\\w+)").matcher(code);
        while (call.find()) {
            boolean numbers = call.group(1).matches("Integer|Long|Math")
                    && call.group(2).matches("[a-z]\\w*") && !call.group(2).endsWith("Exact");
            Check.due(call.group() + " is allowed", true, numbers || LIBRARY.contains(call.group()));
        }
        Matcher imported = Pattern.compile("\\bimport ([^;]*);").matcher(code);
        while (imported.find()) {
            Check.due("import of " + imported.group(1), true, IMPORTS.contains(imported.group(1)));
        }
        Matcher thrown = Pattern.compile("\\bthrow\\b(?! new " + EXCEPTIONS + "\\((\"\")?\\);)").matcher(code);
        Check.due("a throw of another form", false, thrown.find());
    }
}
