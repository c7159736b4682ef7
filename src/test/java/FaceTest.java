import java.io.IOException;
import java.lang.reflect.Constructor;
import java.lang.reflect.Field;
import java.lang.reflect.Method;
import java.lang.reflect.Modifier;
import java.nio.file.Files;
import java.nio.file.Path;
import java.util.Set;
import java.util.TreeSet;
import java.util.regex.Matcher;
import java.util.regex.Pattern;

/** The public face is the document's, word by word, and nothing else of the class can be seen from outside. */
public final class FaceTest {
    private static final Pattern FACE = Pattern.compile("(?s)```java\npublic final class TwinLinks \\{\n(.*?)\\}\n```");
    private static final Pattern PROMISE = Pattern.compile("(?m)^## Promise (\\d+): (.*)\n\n`([^`]*)`: ");
    private static final Pattern METHOD = Pattern.compile("public (\\w+) (\\w+)\\((.*)\\) throws (.*);");

    private final Due due = new Due("FaceTest");
    private final String document = textOf("twinlinks.document");
    private final String source = oneSpaced(textOf("twinlinks.source"));

    private FaceTest() throws IOException { }

    public static void main(String[] args) throws IOException {
        FaceTest test = new FaceTest();
        test.compareWithDocument();
        test.lookForOthers();
        test.due.close();
    }

    private static String textOf(String property) throws IOException {
        return Files.readString(Path.of(System.getProperty(property)));
    }

    private static String oneSpaced(String text) {
        return text.replaceAll("\\s+", " ");
    }

    private void compareWithDocument() {
        Matcher face = FACE.matcher(document);
        due.same("the document has a face", true, face.find());
        String[] lines = face.group(1).strip().split("\n");
        Matcher promise = PROMISE.matcher(document);
        Set<String> methods = new TreeSet<>();
        for (int n = 0; n < lines.length; n++) {
            String line = lines[n].strip();
            due.same("promise " + (n + 1) + " is there", true, promise.find());
            due.same("its number", Integer.toString(n + 1), promise.group(1));
            due.same("its face", line, "public " + promise.group(3) + ";");
            String written = line.replace("java.util.", "").replace(";", " {");
            due.same("the source has " + written, true, source.contains(written));
            addMethod(line, promise.group(2), methods);
        }
        due.same("no promise more", false, promise.find());
        due.same("the methods that can be seen", methods, visibleMethods());
    }

    private void addMethod(String line, String promised, Set<String> methods) {
        Matcher method = METHOD.matcher(line);
        if (!method.matches()) {
            due.same("the constructor", "public TwinLinks();", line);
            return;
        }
        due.same("the promise of " + line, promised, method.group(2));
        String types = method.group(3).replaceAll(" \\w+(?=,|$)", "");
        String thrown = method.group(4).replace("java.util.", "");
        methods.add(method.group(1) + " " + method.group(2) + "(" + types + ") throws " + thrown);
    }

    private void lookForOthers() {
        Class<?> face = TwinLinks.class;
        due.same("public and final", Modifier.PUBLIC | Modifier.FINAL, face.getModifiers());
        due.same("its superclass", Object.class, face.getSuperclass());
        due.same("its interfaces", 0, face.getInterfaces().length);
        due.same("its constructors", 1, face.getDeclaredConstructors().length);
        for (Constructor<?> made : face.getDeclaredConstructors()) {
            due.same("its constructor", "public TwinLinks()", made.toString());
        }
        for (Field field : face.getDeclaredFields()) {
            due.same("private " + field, true, Modifier.isPrivate(field.getModifiers()));
        }
        for (Class<?> inside : face.getDeclaredClasses()) {
            due.same("private " + inside, true, Modifier.isPrivate(inside.getModifiers()));
            due.same("static " + inside, true, Modifier.isStatic(inside.getModifiers()));
        }
    }

    private static Set<String> visibleMethods() {
        Set<String> seen = new TreeSet<>();
        for (Method method : TwinLinks.class.getDeclaredMethods()) {
            if (!Modifier.isPrivate(method.getModifiers())) {
                seen.add(written(method));
            }
        }
        return seen;
    }

    private static String written(Method method) {
        return method.getReturnType().getSimpleName() + " " + method.getName() + "("
            + names(method.getParameterTypes()) + ") throws " + names(method.getExceptionTypes());
    }

    private static String names(Class<?>[] types) {
        StringBuilder all = new StringBuilder();
        for (Class<?> type : types) {
            all.append(all.length() == 0 ? "" : ", ").append(type.getSimpleName());
        }
        return all.toString();
    }
}
