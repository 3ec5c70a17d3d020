import java.io.IOException;
import java.lang.reflect.Constructor;
import java.lang.reflect.Field;
import java.lang.reflect.Method;
import java.lang.reflect.Modifier;
import java.nio.file.Files;
import java.nio.file.Path;
import java.util.ArrayList;
import java.util.List;
import java.util.Set;
import java.util.TreeSet;
import java.util.regex.Matcher;
import java.util.regex.Pattern;

/** The face of the class is the document's, and its text keeps what of LANGUAGE.md a look at it can tell. */
public final class FaceTest {
    private static final String SOURCE = "src/main/java/ColourOffice.java";
    private static final String DOCUMENT = "../shared/DOC.md";
    private static final int MOST_CLASSES = 12;
    private static final int MOST_FIELDS = 20;
    private static final int MOST_PARAMETERS = 7;

    private static final Checks CHECKS = new Checks();

    private FaceTest() {
    }

    public static void main(String[] args) throws IOException {
        Set<String> face = faceOfDocument();
        CHECKS.same("methods that the document lists", face.size(), 57);
        CHECKS.same("1: the face", faceOfClass(), face);
        members();
        int classes = 1;
        for (Class<?> inside : ColourOffice.class.getDeclaredClasses()) {
            classes++;
            insideClass(inside);
        }
        CHECKS.same("11: classes at most " + MOST_CLASSES, classes <= MOST_CLASSES, true);
        text();
        CHECKS.end("FaceTest");
    }

    private static Set<String> faceOfDocument() throws IOException {
        Set<String> face = new TreeSet<>();
        boolean inCode = false;
        for (String line : Files.readAllLines(Path.of(DOCUMENT))) {
            if (line.startsWith("public final class")) {
                inCode = true;
            } else if (line.startsWith("}")) {
                inCode = false;
            } else if (inCode && line.contains("(")) {
                face.add(line.strip().replace(";", ""));
            }
        }
        return face;
    }

    private static Set<String> faceOfClass() throws IOException {
        Set<String> face = new TreeSet<>();
        String source = Files.readString(Path.of(SOURCE)).replaceAll("\\s+throws ", " throws ");
        for (Constructor<?> constructor : ColourOffice.class.getConstructors()) {
            face.add("public " + constructor.getName() + "()");
        }
        for (Method method : ColourOffice.class.getMethods()) {
            if (method.getDeclaringClass() == ColourOffice.class) {
                Matcher written = Pattern.compile("public \\w+ " + method.getName() + "\\([^{]*").matcher(source);
                face.add(written.find() ? written.group().strip() : method.getName());
            }
        }
        return face;
    }

    private static void members() {
        CHECKS.same("1: public and final", Modifier.toString(ColourOffice.class.getModifiers()), "public final");
        CHECKS.same("1: constructors", ColourOffice.class.getDeclaredConstructors().length, 1);
        Set<String> names = new TreeSet<>();
        for (Method method : ColourOffice.class.getMethods()) {
            names.add(method.getName());
        }
        for (Method method : ColourOffice.class.getDeclaredMethods()) {
            if (!Modifier.isPublic(method.getModifiers())) {
                CHECKS.same("1: private " + method, Modifier.isPrivate(method.getModifiers()), true);
                CHECKS.same("1: no public name of " + method, names.contains(method.getName()), false);
            }
        }
        for (Field field : ColourOffice.class.getDeclaredFields()) {
            CHECKS.same("1: private " + field, Modifier.isPrivate(field.getModifiers()), true);
        }
        fieldsAndMethods(ColourOffice.class);
    }

    private static void insideClass(Class<?> inside) {
        CHECKS.same("1: static " + inside, Modifier.isStatic(inside.getModifiers()), true);
        CHECKS.same("1: not public " + inside, Modifier.isPublic(inside.getModifiers()), false);
        CHECKS.same("1: not protected " + inside, Modifier.isProtected(inside.getModifiers()), false);
        for (Method method : inside.getDeclaredMethods()) {
            boolean ofFace = false;
            for (Method other : ColourOffice.class.getMethods()) {
                ofFace |= other.getName().equals(method.getName());
            }
            CHECKS.same("1: no public name of " + method, ofFace, false);
        }
        fieldsAndMethods(inside);
    }

    private static void fieldsAndMethods(Class<?> owner) {
        int fields = 0;
        for (Field field : owner.getDeclaredFields()) {
            if (Modifier.isStatic(field.getModifiers())) {
                CHECKS.same("5: final " + field, Modifier.isFinal(field.getModifiers()), true);
            } else {
                fields++;
            }
        }
        CHECKS.same("11: fields of " + owner, fields <= MOST_FIELDS, true);
        for (Method method : owner.getDeclaredMethods()) {
            CHECKS.same("11: parameters of " + method, method.getParameterCount() <= MOST_PARAMETERS, true);
        }
    }

    private static void text() throws IOException {
        String source = Files.readString(Path.of(SOURCE));
        CHECKS.same("4: signs from 1 to 127", source.chars().allMatch(sign -> sign > 0 && sign < 128), true);
        String code = source.replaceAll("(?s)/\\*.*?\\*/", "").replaceAll("(?m)//.*$", "");
        List<String> imports = new ArrayList<>();
        Matcher matcher = Pattern.compile("import [^;]*").matcher(code);
        while (matcher.find()) {
            imports.add(matcher.group());
        }
        CHECKS.same("4: imports", imports, List.of("import java.util.NoSuchElementException"));
        String[] ruledOut = {"->", "::", "finally", "synchronized", "assert ", "Exact(", "equals(", "hashCode",
            "toString", "Object", "Throwable", "catch (Exception", "catch (RuntimeException", "catch (IndexOut",
            "catch (Arithmetic", "\" +", "+ \"", "System.", "Random", "static {", "getMessage", "Float", "Double",
            "while (", "MAX_VALUE"};
        for (String word : ruledOut) {
            CHECKS.same("the text has no " + word, code.contains(word), false);
        }
        CHECKS.same("1: one public class", code.split("public final class ").length, 2);
    }
}
