import java.lang.reflect.Field;
import java.lang.reflect.Method;
import java.lang.reflect.Modifier;
import java.nio.file.Files;
import java.nio.file.Path;
import java.util.Arrays;
import java.util.Set;
import java.util.TreeSet;
import java.util.regex.Matcher;
import java.util.regex.Pattern;

/** The public face of the document, and those rules of LANGUAGE.md that can be seen from outside. */
public final class FaceTest {
    private static int wrong = 0;

    private static void due(String what, Object got, Object want) {
        if (!want.equals(got)) {
            wrong++;
            System.out.println(what + ": " + got + ", due is " + want);
        }
    }

    public static void main(String[] args) throws Exception {
        methods();
        fields();
        source();
        System.out.println(wrong == 0 ? "the face is as due" : wrong + " things are not as due");
        if (wrong != 0) {
            System.exit(1);
        }
    }

    private static void methods() {
        Set<String> want = new TreeSet<>(Arrays.asList(
            "node()", "arc(int,int,int)", "lose(int,int)", "rank(int,int)", "ranked(int)",
            "landmark(int,boolean)", "make()", "label(int,int,int,int)", "ask(int,int)", "meeting(int,int)",
            "redone()", "damage(int,int,int,int)", "check()", "shortcut(int,int)", "climb(int,int)",
            "way(int,int,int)", "least(int,int)", "most(int,int)", "count(int)"));
        Set<String> names = new TreeSet<>();
        for (String face : want) {
            names.add(face.substring(0, face.indexOf('(')));
        }
        Set<String> got = new TreeSet<>();
        for (Method method : DistanceLabels.class.getDeclaredMethods()) {
            if (Modifier.isPrivate(method.getModifiers())) {
                due("private " + method.getName() + " bears a public name", names.contains(method.getName()), false);
                continue;
            }
            due(method.getName() + " is public and of the object", method.getModifiers(), Modifier.PUBLIC);
            due(method.getName() + " answers", method.getReturnType(), int.class);
            StringBuilder kinds = new StringBuilder();
            for (Class<?> kind : method.getParameterTypes()) {
                kinds.append(kinds.length() == 0 ? "" : ",").append(kind.getName());
            }
            got.add(method.getName() + "(" + kinds + ")");
        }
        due("methods", got, want);
        due("constructors", DistanceLabels.class.getDeclaredConstructors().length, 1);
        due("constructor", DistanceLabels.class.getConstructors()[0].getParameterCount(), 0);
        due("class", DistanceLabels.class.getModifiers(), Modifier.PUBLIC | Modifier.FINAL);
    }

    private static void fields() {
        Set<String> got = new TreeSet<>();
        for (Field field : DistanceLabels.class.getDeclaredFields()) {
            int kind = field.getModifiers();
            if (!Modifier.isPrivate(kind)) {
                got.add(field.getName());
                due(field.getName(), kind, Modifier.PUBLIC | Modifier.STATIC | Modifier.FINAL);
            } else if (Modifier.isStatic(kind)) {
                due("static " + field.getName() + " is final", Modifier.isFinal(kind), true);
            }
        }
        due("constants", got, new TreeSet<>(Arrays.asList("NONE", "BAD", "FULL", "TURN")));
        for (Class<?> inside : DistanceLabels.class.getDeclaredClasses()) {
            due(inside.getName() + " is static", Modifier.isStatic(inside.getModifiers()), true);
        }
    }

    /** The tests are run from the root of the project. */
    private static void source() throws Exception {
        String text = Files.readString(Path.of("src/main/java/DistanceLabels.java"));
        String code = text.replaceAll("(?s)/\\*.*?\\*/", "").replaceAll("//[^\n]*", "");
        Matcher words = Pattern.compile(
            "\\b(throw|throws|try|catch|synchronized|assert|package|hashCode|\\w+Exact|System\\.(?!arraycopy)\\w+)\\b|::")
            .matcher(code);
        while (words.find()) {
            due("the source has", words.group(), "nothing of that kind");
        }
        Matcher imports = Pattern.compile("import[^;]*;").matcher(code);
        while (imports.find()) {
            boolean isListed = imports.group().matches("import java\\.util\\.(Arrays|ArrayList|List|Iterator);");
            due(imports.group() + " is of the library that LANGUAGE.md lists", isListed, true);
        }
    }
}
