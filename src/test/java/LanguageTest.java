import java.io.IOException;
import java.lang.reflect.Constructor;
import java.lang.reflect.Field;
import java.lang.reflect.Member;
import java.lang.reflect.Method;
import java.lang.reflect.Modifier;
import java.nio.file.Files;
import java.nio.file.Path;
import java.util.HashSet;
import java.util.List;
import java.util.Set;
import java.util.regex.Matcher;
import java.util.regex.Pattern;

/** The face that the document gives, and the rules of ../shared/LANGUAGE.md that a look at the source can tell. */
final class LanguageTest {
    private static final List<String> LIBRARY = List.of("Arrays.fill", "System.arraycopy", "Integer.bitCount",
            "Long.bitCount", "Math.max", "Math.min", "Math.abs");

    public static void main(String[] args) throws IOException {
        String source = Files.readString(Path.of("src/main/java/HomBench.java"));
        face(Files.readString(Path.of("../shared/DOC.md")), source);
        members();
        privateNames();
        words(withoutComments(source));
        library(withoutComments(source));
        Check.finish("LanguageTest");
    }

    private static void face(String document, String source) {
        String oneLine = source.replaceAll("\\s+", " ");
        String block = document.substring(document.indexOf("```java"), document.indexOf("## Description"));
        int lines = 0;
        for (String line : block.split("\n")) {
            String member = line.strip();
            if (member.startsWith("public ") && member.endsWith(";")) {
                lines++;
                String due = member.contains("=") ? member : member.replace(";", " {");
                Check.due(due, true, oneLine.contains(due));
            }
        }
        Check.due("members of the face", 36, lines);
        Check.due("nothing else is public", lines + 1, source.split("\\bpublic\\b").length - 1);
        Check.due("nothing is protected", false, withoutComments(source).contains("protected"));
        Check.due("no package", false, Pattern.compile("^package", Pattern.MULTILINE).matcher(source).find());
    }

    private static void members() {
        for (Field field : HomBench.class.getDeclaredFields()) {
            publicOrPrivate(field);
        }
        for (Method method : HomBench.class.getDeclaredMethods()) {
            publicOrPrivate(method);
        }
        for (Constructor<?> constructor : HomBench.class.getDeclaredConstructors()) {
            publicOrPrivate(constructor);
        }
        Check.due("final", true, Modifier.isFinal(HomBench.class.getModifiers()));
        Class<?>[] inside = HomBench.class.getDeclaredClasses();
        Check.due("some twelve classes", true, inside.length <= 11);
        for (Class<?> one : inside) {
            Check.due(one + " is static", true, Modifier.isStatic(one.getModifiers()));
            for (Field field : one.getDeclaredFields()) {
                boolean kept = !Modifier.isStatic(field.getModifiers()) || Modifier.isFinal(field.getModifiers());
                Check.due(field + " if static is final", true, kept);
            }
        }
    }

    private static void publicOrPrivate(Member member) {
        int modifiers = member.getModifiers();
        Check.due(member + " is public or private", true,
                Modifier.isPublic(modifiers) || Modifier.isPrivate(modifiers));
    }

    private static void privateNames() {
        Set<String> face = new HashSet<>();
        for (Method method : HomBench.class.getMethods()) {
            face.add(method.getName());
        }
        for (Method method : HomBench.class.getDeclaredMethods()) {
            if (!Modifier.isPublic(method.getModifiers())) {
                Check.due(method + " has a name of its own", false, face.contains(method.getName()));
            }
        }
        for (Class<?> one : HomBench.class.getDeclaredClasses()) {
            for (Method method : one.getDeclaredMethods()) {
                Check.due(method + " has a name of its own", false, face.contains(method.getName()));
                Check.due(method + " has at most seven parameters", true, method.getParameterCount() <= 7);
            }
        }
    }

    private static String withoutComments(String source) {
        return source.replaceAll("(?s)/\\*.*?\\*/", "").replaceAll("//[^\n]*", "").replaceAll("\"[^\"\n]*\"", "\"\"");
    }

    private static void words(String code) {
        String[] forbidden = {"->", "::", "while", "try", "catch", "finally", "synchronized", "assert", "instanceof",
            "native", "volatile", "float", "double", "Object", "Thread", "Random", "null", "record", "enum"};
        for (String word : forbidden) {
            boolean named = word.chars().allMatch(Character::isLetter);
            String pattern = named ? "\\b" + word + "\\b" : Pattern.quote(word);
            Check.due("the code has " + word, false, Pattern.compile(pattern).matcher(code).find());
        }
    }

    private static void library(String code) {
        Matcher call = Pattern.compile("\\b(Arrays|System|Integer|Long|Math|String|Character|Byte)\\.\\w+").matcher(code);
        while (call.find()) {
            Check.due(call.group() + " is allowed", true, LIBRARY.contains(call.group()));
        }
        Matcher imported = Pattern.compile("\\bimport ([^;]*);").matcher(code);
        while (imported.find()) {
            Check.due("import", "java.util.Arrays", imported.group(1));
        }
        Matcher thrown = Pattern.compile("\\bthrow\\b(?! new \\w+Exception\\(\"\"\\);)").matcher(code);
        Check.due("a throw of another form", false, thrown.find());
    }
}
