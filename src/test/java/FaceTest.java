import java.lang.reflect.Constructor;
import java.lang.reflect.Field;
import java.lang.reflect.Method;
import java.lang.reflect.Modifier;
import java.util.ArrayList;
import java.util.List;
import java.util.TreeSet;

/** The public face: what the document names, as it names it, and nothing more (LANGUAGE.md, rules 1 and 5). */
public final class FaceTest {
    public static void main(String[] args) {
        Expect expect = new Expect();
        Class<?> face = SixWayGas.class;
        expect.equal("lines of the document's face", Document.face().size(), 22);
        TreeSet<String> shown = new TreeSet<>();
        shown.add(Modifier.toString(face.getModifiers()) + " class " + face.getName() + " {");
        shown.add("}");
        shown.addAll(constructors(face));
        shown.addAll(fields(expect, face));
        shown.addAll(methods(expect, face));
        expect.same("the face", String.join("\n", shown), String.join("\n", documented()));
        expect.equal("NONE", SixWayGas.NONE, -1);
        expect.same("what the class extends", face.getSuperclass().getName(), "java.lang.Object");
        expect.equal("what the class implements", face.getInterfaces().length, 0);
        for (Class<?> inside : face.getDeclaredClasses()) {
            int has = inside.getModifiers();
            expect.equal(inside + " is static", Modifier.isStatic(has), true);
            expect.equal(inside + " is not shown", Modifier.isPublic(has) || Modifier.isProtected(has), false);
        }
        expect.end();
    }

    /** As reflection writes it: types without names, no values, no blanks behind commas. */
    private static TreeSet<String> documented() {
        TreeSet<String> lines = new TreeSet<>();
        for (String line : Document.face()) {
            String plain = line.replaceAll("(int|boolean) \\w+(?=[,)])", "$1").replaceAll(" = .*;", ";");
            lines.add(plain.replace(", ", ",").replace(";", ""));
        }
        return lines;
    }

    private static String plain(Object member) {
        return member.toString().replace("SixWayGas.", "").replace("java.lang.", "").replace("java.util.", "");
    }

    private static List<String> constructors(Class<?> face) {
        List<String> shown = new ArrayList<>();
        for (Constructor<?> constructor : face.getDeclaredConstructors()) {
            if (!Modifier.isPrivate(constructor.getModifiers())) {
                shown.add(plain(constructor));
            }
        }
        return shown;
    }

    private static List<String> methods(Expect expect, Class<?> face) {
        List<String> shown = new ArrayList<>();
        TreeSet<String> shownNames = new TreeSet<>();
        TreeSet<String> hiddenNames = new TreeSet<>();
        for (Method method : face.getDeclaredMethods()) {
            if (Modifier.isPrivate(method.getModifiers())) {
                hiddenNames.add(method.getName());
            } else {
                shown.add(plain(method));
                shownNames.add(method.getName());
            }
        }
        hiddenNames.retainAll(shownNames);
        expect.same("private methods with a public one's name", hiddenNames.toString(), "[]");
        return shown;
    }

    private static List<String> fields(Expect expect, Class<?> face) {
        List<String> shown = new ArrayList<>();
        for (Field field : face.getDeclaredFields()) {
            int has = field.getModifiers();
            if (!Modifier.isPrivate(has)) {
                shown.add(plain(field));
            }
            expect.equal(field + " is final if static", !Modifier.isStatic(has) || Modifier.isFinal(has), true);
        }
        return shown;
    }
}
