import java.lang.reflect.Constructor;
import java.lang.reflect.Field;
import java.lang.reflect.Method;
import java.lang.reflect.Modifier;
import java.util.TreeSet;

/** The public face: all that the document writes there, and nothing else that another class could use. */
public final class FaceTest {
    private static final String[] FACE = {"public int send(int c, int word, int n);", "public boolean open(int c);",
        "public boolean isOpen(int c);", "public int size(int c);", "public int at(int c, int i);", "public boolean type(int word, int n);",
        "public boolean match(int part, int way);", "public int stub(int priority, int status);",
        "public boolean scene(int id, int scenario, int need, int next);", "public boolean remove(int id);", "public int reset();",
        "public int count();", "public int journal();", "public int chosen(int k);", "public int near(int k);",
        "public int state(int scenario);", "public int served();"};

    public static void main(String[] args) {
        theClass();
        theConstructor();
        theMethods();
        nothingElse();
        Probe.end();
    }

    private static void theClass() {
        Probe.sentence("The public face", "public final class StubServer {");
        Probe.due("modifiers", Modifier.toString(StubServer.class.getModifiers()), "public final");
        Probe.due("package", StubServer.class.getPackageName(), "");
        Probe.due("no class above it", StubServer.class.getSuperclass(), Object.class);
    }

    private static void theConstructor() {
        Probe.sentence("The public face", "public StubServer();");
        Constructor<?>[] all = StubServer.class.getDeclaredConstructors();
        Probe.due("constructors", all.length, 1);
        Probe.due("the constructor", all[0].toString(), "public StubServer()");
    }

    /** A method of the face as reflection tells it: without the names of its parameters. */
    private static String signature(String written) {
        return written.replaceAll("int [a-z]+(?=[,)])", "int").replace(", ", ",").replaceAll(" ([a-zA-Z]+)\\(", " StubServer.$1(").replace(";", "");
    }

    private static void theMethods() {
        TreeSet<String> there = new TreeSet<>();
        for (Method method : StubServer.class.getDeclaredMethods()) {
            there.add(method.toString());
        }
        for (String written : FACE) {
            Probe.sentence("The public face", written);
            Probe.due(written, there.contains(signature(written)), true);
        }
    }

    private static void nothingElse() {
        Probe.sentence("The public face", "public final class StubServer {");
        int open = 0;
        for (Method method : StubServer.class.getDeclaredMethods()) {
            open += Modifier.isPrivate(method.getModifiers()) || method.isSynthetic() ? 0 : 1;
        }
        Probe.due("methods that are not private", open, FACE.length);
        for (Field field : StubServer.class.getDeclaredFields()) {
            Probe.due(field + " is private", Modifier.isPrivate(field.getModifiers()), true);
        }
        for (Class<?> inside : StubServer.class.getDeclaredClasses()) {
            Probe.due(inside + " is static", Modifier.isStatic(inside.getModifiers()), true);
            Probe.due(inside + " is not public", Modifier.isPublic(inside.getModifiers()) || Modifier.isProtected(inside.getModifiers()), false);
        }
    }
}
