import java.lang.reflect.Constructor;
import java.lang.reflect.Field;
import java.lang.reflect.Method;
import java.lang.reflect.Modifier;
import java.util.ArrayList;
import java.util.List;
import java.util.TreeSet;

/** The public face: what the document names, as it names it, and nothing more (LANGUAGE.md, rules 1 and 5). */
public final class FaceTest {
    private static final String[] FACE = {
        "public void set(int,int,int) throws IndexOutOfBoundsException,IllegalArgumentException",
        "public int get(int,int) throws IndexOutOfBoundsException",
        "public int rule(int,int) throws IllegalArgumentException",
        "public boolean wall(int,int,boolean) throws IndexOutOfBoundsException,IllegalStateException",
        "public void source(int,int,int) throws IndexOutOfBoundsException,IllegalArgumentException,IllegalStateException",
        "public boolean sink(int,int,boolean) throws IndexOutOfBoundsException,IllegalStateException",
        "public boolean body(int,int,boolean) throws IndexOutOfBoundsException,IllegalStateException",
        "public int edge(int,int) throws IndexOutOfBoundsException",
        "public void mass(int) throws IllegalArgumentException",
        "public int account(int) throws IllegalArgumentException",
        "public void seed(int)",
        "public int step(int) throws IllegalArgumentException",
        "public int back(int) throws IllegalArgumentException,UnsupportedOperationException",
        "public int sum(int,int,int,int,int) throws IndexOutOfBoundsException,IllegalArgumentException",
        "public int book(int,int) throws IllegalArgumentException",
        "public int check()",
        "public int mark(int,int,int) throws IndexOutOfBoundsException,IllegalArgumentException,"
            + "NoSuchElementException,IllegalStateException,UnsupportedOperationException",
        "public int marked(int) throws IndexOutOfBoundsException"};

    public static void main(String[] args) {
        Expect expect = new Expect();
        Class<?> face = SixWayGas.class;
        expect.same("the class", Modifier.toString(face.getModifiers()), "public final");
        methods(expect, face);
        fields(expect, face);
        List<String> constructors = new ArrayList<>();
        for (Constructor<?> constructor : face.getDeclaredConstructors()) {
            constructors.add(constructor.toString());
        }
        expect.same("constructors", constructors.toString(), "[public SixWayGas(int,int)]");
        for (Class<?> inside : face.getDeclaredClasses()) {
            int has = inside.getModifiers();
            expect.equal(inside + " is static", Modifier.isStatic(has), true);
            expect.equal(inside + " is not shown", Modifier.isPublic(has) || Modifier.isProtected(has), false);
        }
        expect.end();
    }

    private static void methods(Expect expect, Class<?> face) {
        TreeSet<String> due = new TreeSet<>(List.of(FACE));
        TreeSet<String> shown = new TreeSet<>();
        TreeSet<String> shownNames = new TreeSet<>();
        TreeSet<String> hiddenNames = new TreeSet<>();
        for (Method method : face.getDeclaredMethods()) {
            if (Modifier.isPrivate(method.getModifiers())) {
                hiddenNames.add(method.getName());
            } else {
                String text = method.toString().replace("SixWayGas.", "");
                shown.add(text.replace("java.lang.", "").replace("java.util.", ""));
                shownNames.add(method.getName());
            }
        }
        expect.same("methods", shown.toString(), due.toString());
        hiddenNames.retainAll(shownNames);
        expect.same("private methods with a public one's name", hiddenNames.toString(), "[]");
    }

    private static void fields(Expect expect, Class<?> face) {
        TreeSet<String> shown = new TreeSet<>();
        for (Field field : face.getDeclaredFields()) {
            int has = field.getModifiers();
            if (!Modifier.isPrivate(has)) {
                shown.add(field.toString());
            }
            expect.equal(field + " is final if static", !Modifier.isStatic(has) || Modifier.isFinal(has), true);
        }
        expect.same("fields", shown.toString(), "[public static final int SixWayGas.NONE]");
    }
}
