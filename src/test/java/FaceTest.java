import java.io.IOException;
import java.lang.reflect.Constructor;
import java.lang.reflect.Field;
import java.lang.reflect.Method;
import java.lang.reflect.Modifier;
import java.nio.file.Files;
import java.nio.file.Path;
import java.util.ArrayList;
import java.util.HashSet;
import java.util.List;
import java.util.Set;
import java.util.TreeSet;

/** The compiled class has the face that the document shows and no more; run from the project's root. */
public final class FaceTest {
    private static final Path DOCUMENT = Path.of("../shared/DOC.md");
    private static final int FIELDS = 20;

    public static void main(String[] args) throws IOException, IllegalAccessException {
        Set<String> due = shown();
        Set<String> is = has();
        Check.due("members shown", due.size(), 37);
        for (String one : due) {
            Check.due("there is " + one, is.contains(one), true);
        }
        for (String one : is) {
            Check.due(one + " is shown", due.contains(one), true);
        }
        Check.due("modifiers of the class", FourPoses.class.getModifiers(), Modifier.PUBLIC | Modifier.FINAL);
        Check.due("NONE", FourPoses.class.getFields()[0].getInt(null), -1);
        names();
        classes();
        Check.end();
    }

    /** The members in the document's face, without the names of what they are told. */
    private static Set<String> shown() throws IOException {
        Set<String> all = new TreeSet<>();
        for (String line : Files.readAllLines(DOCUMENT)) {
            if (line.matches(" {4}public .*;")) {
                all.add(line.trim().replace(" = -1", "").replaceAll("(int|boolean) [a-z]+(?=[,)])", "$1"));
            }
        }
        return all;
    }

    private static Set<String> has() {
        Set<String> all = new TreeSet<>();
        for (Constructor<?> one : FourPoses.class.getDeclaredConstructors()) {
            add(all, one.getModifiers(), "FourPoses", one.getParameterTypes());
        }
        for (Method one : FourPoses.class.getDeclaredMethods()) {
            add(all, one.getModifiers(), one.getReturnType() + " " + one.getName(), one.getParameterTypes());
        }
        for (Field one : FourPoses.class.getDeclaredFields()) {
            if (!Modifier.isPrivate(one.getModifiers())) {
                all.add(Modifier.toString(one.getModifiers()) + " " + one.getType() + " " + one.getName() + ";");
            }
        }
        return all;
    }

    private static void add(Set<String> all, int modifiers, String name, Class<?>[] told) {
        if (!Modifier.isPrivate(modifiers)) {
            List<String> types = new ArrayList<>();
            for (Class<?> one : told) {
                types.add(one.getName());
            }
            all.add(Modifier.toString(modifiers) + " " + name + "(" + String.join(", ", types) + ");");
        }
    }

    /** "No private method bears the name of a public one." */
    private static void names() {
        Set<String> open = new HashSet<>();
        for (Method one : FourPoses.class.getMethods()) {
            open.add(one.getName());
        }
        for (Method one : FourPoses.class.getDeclaredMethods()) {
            boolean hidden = Modifier.isPrivate(one.getModifiers());
            Check.due("a private " + one.getName(), hidden && open.contains(one.getName()), false);
        }
    }

    private static void classes() {
        fields(FourPoses.class);
        for (Class<?> one : FourPoses.class.getDeclaredClasses()) {
            int modifiers = one.getModifiers();
            Check.due(one + " is static", Modifier.isStatic(modifiers), true);
            Check.due(one + " is open", Modifier.isPublic(modifiers) || Modifier.isProtected(modifiers), false);
            fields(one);
        }
    }

    private static void fields(Class<?> one) {
        int n = 0;
        for (Field field : one.getDeclaredFields()) {
            if (Modifier.isStatic(field.getModifiers())) {
                Check.due(one + "." + field.getName() + " is final", Modifier.isFinal(field.getModifiers()), true);
            } else {
                n++;
            }
        }
        Check.due("fields of " + one + ": " + n, n <= FIELDS, true);
    }
}
