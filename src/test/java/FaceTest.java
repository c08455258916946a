import java.lang.reflect.Constructor;
import java.lang.reflect.Field;
import java.lang.reflect.Method;
import java.lang.reflect.Modifier;
import java.util.TreeSet;

/** The face of the document and nothing beside it, and the rules of LANGUAGE.md that can be seen from outside. */
public final class FaceTest {
    public static void main(String[] args) {
        Run.due("class", Modifier.toString(TreeStore.class.getModifiers()), "public final");
        TreeSet<String> open = new TreeSet<>();
        TreeSet<String> openNames = new TreeSet<>();
        TreeSet<String> hidden = new TreeSet<>();
        for (Method method : TreeStore.class.getDeclaredMethods()) {
            if (Modifier.isPrivate(method.getModifiers())) {
                hidden.add(method.getName());
            } else {
                open.add(method.toString().replace("TreeStore.", "").replace("java.lang.", ""));
                openNames.add(method.getName());
            }
        }
        Run.due("open methods", String.join("\n", open), String.join("\n", new TreeSet<>(java.util.List.of(
            "public boolean type(long)",
            "public void wipe()",
            "public int load() throws IllegalArgumentException,UnsupportedOperationException,IllegalStateException",
            "public int insert(int,int) throws IndexOutOfBoundsException,IllegalArgumentException,UnsupportedOperationException,"
                + "IllegalStateException",
            "public int delete(int) throws IndexOutOfBoundsException,IllegalStateException",
            "public int rename(int) throws IndexOutOfBoundsException,IllegalStateException,IllegalArgumentException",
            "public int query(int) throws IndexOutOfBoundsException,IllegalArgumentException",
            "public int result(int) throws IndexOutOfBoundsException",
            "public int nodes()",
            "public int kind(int)",
            "public int size(int)",
            "public int level(int)",
            "public int name(int,int)",
            "public int value(int,int)",
            "public int print(int)"))));
        for (Constructor<?> constructor : TreeStore.class.getDeclaredConstructors()) {
            Run.due("constructor", constructor.toString(), "public TreeStore()");
        }
        for (Field field : TreeStore.class.getDeclaredFields()) {
            Run.due("field " + field.getName() + " is private", Modifier.isPrivate(field.getModifiers()), true);
        }
        for (Class<?> inside : TreeStore.class.getDeclaredClasses()) {
            Run.due(inside + " is private and static", inside.getModifiers() & (Modifier.PRIVATE | Modifier.STATIC),
                Modifier.PRIVATE | Modifier.STATIC);
            for (Method method : inside.getDeclaredMethods()) {
                hidden.add(method.getName());
            }
        }
        hidden.retainAll(openNames);
        Run.due("hidden methods with open names", hidden, "[]");
        Run.end("FaceTest");
    }
}
