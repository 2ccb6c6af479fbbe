import java.lang.reflect.Constructor;
import java.lang.reflect.Field;
import java.lang.reflect.Method;
import java.lang.reflect.Modifier;
import java.util.ArrayList;
import java.util.Arrays;
import java.util.HashSet;
import java.util.List;
import java.util.Set;

/** The public face is the document's, and nothing more. */
final class FaceTest {
    private static final String[] METHODS = {
        "man 2", "stood 3", "of 2", "seat 1", "type 1", "read 0", "count 1",
        "years 1", "move 1", "nurse 2", "drift 1", "undo 0", "seed 1",
        "ahead 2", "then 1", "ends 1", "lonely 0", "close 2", "swaps 1", "stay 2", "ways 0",
        "ease 1", "left 2", "winter 3", "image 0", "restore 0",
        "failed 6", "film 5", "sheet 3", "drop 1", "item 4", "copy 5",
    };
    private static final String[] CONSTANTS = {"BAD", "NOT", "FULL", "NONE", "NULL", "CAST", "INDEX", "SIZE"};

    public static void main(String[] args) throws Exception {
        Checks checks = new Checks();
        Class<?> face = BattleBench.class;
        checks.due("a public final class", face.getModifiers() & (Modifier.PUBLIC | Modifier.FINAL),
            Modifier.PUBLIC | Modifier.FINAL);

        List<String> open = new ArrayList<>();
        Set<String> openNames = new HashSet<>();
        List<String> hidden = new ArrayList<>();
        for (Method method : face.getDeclaredMethods()) {
            if (Modifier.isPublic(method.getModifiers())) {
                open.add(method.getName() + " " + method.getParameterCount());
                openNames.add(method.getName());
                checks.due(method.getName() + " answers an int", method.getReturnType() == int.class ? 1 : 0, 1);
                checks.due(method.getName() + " is no static", Modifier.isStatic(method.getModifiers()) ? 1 : 0, 0);
            } else {
                hidden.add(method.getName());
                checks.due(method.getName() + " is private", Modifier.isPrivate(method.getModifiers()) ? 1 : 0, 1);
            }
        }
        Set<String> told = new HashSet<>(Arrays.asList(METHODS));
        checks.due("the methods of the document", new HashSet<>(open).equals(told) ? 1 : 0, 1);
        checks.due("each once", open.size(), METHODS.length);
        for (String name : hidden) {
            checks.due("no private method is named " + name, openNames.contains(name) ? 1 : 0, 0);
        }
        Method item = face.getMethod("item", int.class, int.class, int.class, long.class);
        checks.due("item takes a long", item.getParameterCount(), 4);

        Constructor<?>[] constructors = face.getDeclaredConstructors();
        checks.due("one constructor", constructors.length, 1);
        checks.due("without parameters", constructors[0].getParameterCount(), 0);

        int seen = 0;
        for (Field field : face.getDeclaredFields()) {
            if (Modifier.isPublic(field.getModifiers())) {
                seen++;
                checks.due(field.getName() + " is told", Arrays.asList(CONSTANTS).contains(field.getName()) ? 1 : 0, 1);
            } else {
                checks.due(field.getName() + " is private", Modifier.isPrivate(field.getModifiers()) ? 1 : 0, 1);
            }
            if (Modifier.isStatic(field.getModifiers())) {
                checks.due(field.getName() + " is final", Modifier.isFinal(field.getModifiers()) ? 1 : 0, 1);
            }
        }
        checks.due("the constants", seen, CONSTANTS.length);
        checks.due("BAD", BattleBench.BAD, -1);
        checks.due("NOT", BattleBench.NOT, -2);
        checks.due("FULL", BattleBench.FULL, -3);
        checks.due("NONE", BattleBench.NONE, -4);
        checks.due("NULL", BattleBench.NULL, -11);
        checks.due("CAST", BattleBench.CAST, -12);
        checks.due("INDEX", BattleBench.INDEX, -13);
        checks.due("SIZE", BattleBench.SIZE, -14);
        checks.end();
    }
}
