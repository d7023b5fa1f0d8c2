import java.io.IOException;
import java.lang.reflect.Executable;
import java.lang.reflect.Field;
import java.lang.reflect.Method;
import java.lang.reflect.Modifier;
import java.nio.file.Files;
import java.nio.file.Path;
import java.util.Arrays;
import java.util.List;
import java.util.Set;
import java.util.TreeSet;
import java.util.stream.Collectors;

/** The class shows the public face that stands in the document, and no more. */
public final class FaceTest extends Checks {
    private static final Path DOCUMENT = Path.of("../shared/DOC.md");
    private static final Class<?> CLASS = ComparatorNet.class;

    public static void main(String[] args) throws IOException, IllegalAccessException {
        Set<String> promised = promised(Files.readString(DOCUMENT));
        // The class line, 3 constants, the constructor and 15 methods.
        due("lines of the face that were read from the document", promised.size(), 20);
        same("the public face", found(), promised);
        same("parents of the class", List.of(CLASS.getSuperclass(), CLASS.getInterfaces().length),
                List.of(Object.class, 0));
        noPrivateNamesake();
        end();
    }

    /** The lines of the Java in the document, without the names of parameters. */
    private static Set<String> promised(String document) {
        String java = document.split("```java\n")[1].split("```")[0];
        return java.lines().map(line -> line.trim().replaceAll(" ?[;{}]$", "").replaceAll("int \\w+([,)])", "int$1"))
                .filter(line -> !line.isEmpty()).collect(Collectors.toCollection(TreeSet::new));
    }

    /** All that is not private, so that a member without a word in front is seen, too. */
    private static Set<String> found() throws IllegalAccessException {
        Set<String> face = new TreeSet<>();
        face.add(Modifier.toString(CLASS.getModifiers()) + " class " + CLASS.getName());
        for (Field f : CLASS.getDeclaredFields()) {
            if (!Modifier.isPrivate(f.getModifiers())) {
                Object value = Modifier.isStatic(f.getModifiers()) ? f.get(null) : "none";
                face.add(Modifier.toString(f.getModifiers()) + " " + f.getType() + " " + f.getName() + " = " + value);
            }
        }
        for (Executable c : CLASS.getDeclaredConstructors()) {
            addTo(face, c, "");
        }
        for (Method m : CLASS.getDeclaredMethods()) {
            addTo(face, m, m.getReturnType() + " ");
        }
        return face;
    }

    private static void addTo(Set<String> face, Executable member, String type) {
        if (!Modifier.isPrivate(member.getModifiers())) {
            String parameters = Arrays.stream(member.getParameterTypes()).map(Class::getName)
                    .collect(Collectors.joining(", ", "(", ")"));
            face.add((Modifier.toString(member.getModifiers()) + " " + type).trim() + " " + member.getName()
                    + parameters);
        }
    }

    private static void noPrivateNamesake() {
        Set<String> shown = Arrays.stream(CLASS.getMethods()).map(Method::getName).collect(Collectors.toSet());
        for (Method m : CLASS.getDeclaredMethods()) {
            same("a private method with a public name, " + m.getName(),
                    Modifier.isPrivate(m.getModifiers()) && shown.contains(m.getName()), false);
        }
    }
}
