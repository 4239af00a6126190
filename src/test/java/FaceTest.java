import java.io.IOException;
import java.lang.reflect.Constructor;
import java.lang.reflect.Field;
import java.lang.reflect.Method;
import java.lang.reflect.Modifier;
import java.nio.file.Files;
import java.nio.file.Path;
import java.util.HashSet;
import java.util.List;
import java.util.Set;
import java.util.TreeSet;
import java.util.regex.Matcher;
import java.util.regex.Pattern;

/** The public face, and those rules of LANGUAGE.md that can be seen from the class or its text. */
public final class FaceTest {
    private static final Due DUE = new Due();

    public static void main(String[] args) throws IOException {
        face(Document.face(Path.of("../shared/DOC.md")));
        hidden();
        inside();
        text(Files.readString(Path.of("src/main/java/DownhillPost.java")));
        DUE.end("FaceTest");
    }

    private static String told(Method method) {
        StringBuilder told = new StringBuilder();
        told.append(method.getReturnType().getName()).append(' ').append(method.getName()).append('(');
        for (Class<?> type : method.getParameterTypes()) {
            told.append(told.charAt(told.length() - 1) == '(' ? "" : ",").append(type.getName());
        }
        return told.append(')').toString();
    }

    private static void face(Set<String> want) {
        Class<?> face = DownhillPost.class;
        DUE.holds("the class is public and final", face.getModifiers() == (Modifier.PUBLIC | Modifier.FINAL));
        Constructor<?>[] made = face.getDeclaredConstructors();
        DUE.holds("one public constructor without arguments",
            made.length == 1 && Modifier.isPublic(made[0].getModifiers()) && made[0].getParameterCount() == 0);
        Set<String> got = new TreeSet<>();
        for (Method method : face.getDeclaredMethods()) {
            if (!Modifier.isPrivate(method.getModifiers())) {
                got.add(told(method));
                DUE.holds(method + " is just public", method.getModifiers() == Modifier.PUBLIC);
            }
        }
        DUE.due("methods of the face", want.size(), 47);
        DUE.holds("the face is " + got + ", due is " + want, got.equals(want));
    }

    private static Set<String> openNames() {
        Set<String> open = new HashSet<>();
        for (Method method : DownhillPost.class.getMethods()) {
            open.add(method.getName());
        }
        return open;
    }

    private static void hidden() {
        Set<String> open = openNames();
        for (Method method : DownhillPost.class.getDeclaredMethods()) {
            if (Modifier.isPrivate(method.getModifiers())) {
                DUE.holds(method + " bears a public one's name", !open.contains(method.getName()));
            }
        }
        for (Field field : DownhillPost.class.getDeclaredFields()) {
            DUE.holds(field + " isn't private", Modifier.isPrivate(field.getModifiers()));
            fieldFits(field);
        }
    }

    private static void fieldFits(Field field) {
        if (Modifier.isStatic(field.getModifiers())) {
            boolean fits = List.of("int", "long", "boolean", "char", "java.lang.String", "[I", "[J", "[C", "[B")
                .contains(field.getType().getName());
            DUE.holds(field + " is no constant", Modifier.isFinal(field.getModifiers()) && fits);
        }
    }

    private static void inside() {
        Class<?>[] classes = DownhillPost.class.getDeclaredClasses();
        DUE.holds("too many classes", classes.length <= 11);
        Set<String> open = openNames();
        for (Class<?> one : classes) {
            DUE.holds(one + " is static and not open", Modifier.isStatic(one.getModifiers())
                && !Modifier.isPublic(one.getModifiers()) && !Modifier.isProtected(one.getModifiers()));
            int fields = 0;
            for (Field field : one.getDeclaredFields()) {
                fieldFits(field);
                fields += Modifier.isStatic(field.getModifiers()) ? 0 : 1;
            }
            DUE.holds(one + " has too many fields", fields <= 20);
            for (Method method : one.getDeclaredMethods()) {
                DUE.holds(method + " takes too much", method.getParameterCount() <= 7);
                DUE.holds(method + " bears a public one's name", !open.contains(method.getName()));
            }
        }
    }

    private static void text(String whole) {
        String bare = whole.replaceAll("(?s)/\\*.*?\\*/", "").replaceAll("//[^\n]*", "").replaceAll("\"[^\"\n]*\"", "\"\"");
        Matcher word = Pattern.compile(
            "\\b(throws?|try|catch|finally|synchronized|assert|package|import|native|volatile|transient|Object|System\\.(?!arraycopy)"
            + "|equals|hashCode|toString|[a-zA-Z]+Exact|record|enum|interface|double|float)\\b|->|::|@").matcher(bare);
        while (word.find()) {
            DUE.holds("the text holds " + word.group(), false);
        }
        for (char one : whole.toCharArray()) {
            if (one > 126 || one < 32 && one != '\n') {
                DUE.holds("the text holds sign " + (int) one, false);
            }
        }
        methodsAreShort(bare.split("\n"));
    }

    private static void methodsAreShort(String[] lines) {
        String indent = null;
        int from = 0;
        for (int i = 0; i < lines.length; i++) {
            if (indent == null && lines[i].matches("(    ){1,2}[a-zA-Z].*\\) \\{")) {
                indent = lines[i].startsWith("        ") ? "        " : "    ";
                from = i;
            } else if (indent != null && lines[i].equals(indent + "}")) {
                DUE.holds("too long: " + lines[from], i - from < 60);
                indent = null;
            }
        }
        DUE.holds("the last method has an end", indent == null && from > 0);
    }
}
