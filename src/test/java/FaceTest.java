import java.lang.reflect.Constructor;
import java.lang.reflect.Field;
import java.lang.reflect.Method;
import java.lang.reflect.Modifier;
import java.util.Arrays;
import java.util.TreeSet;

/** The class has the document's face, and no member beside it that others can see. */
public final class FaceTest {
    private static final String[] FACE = {
        "public int PlainWarehouse.count(int)",
        "public int PlainWarehouse.event(int,int,int,int)"
            + " throws java.lang.IllegalArgumentException,java.lang.UnsupportedOperationException",
        "public int PlainWarehouse.explained(int) throws java.util.NoSuchElementException",
        "public int PlainWarehouse.money(int,int)"
            + " throws java.util.NoSuchElementException,java.lang.IllegalArgumentException",
        "public int PlainWarehouse.needs(int) throws java.util.NoSuchElementException",
        "public int PlainWarehouse.order(int,int)"
            + " throws java.util.NoSuchElementException,java.lang.IllegalArgumentException",
        "public int PlainWarehouse.promise(int) throws java.util.NoSuchElementException",
        "public int PlainWarehouse.stock(int,int) throws java.lang.IllegalArgumentException",
        "public int PlainWarehouse.told(int,int)"
            + " throws java.util.NoSuchElementException,java.lang.IllegalArgumentException",
        "public int PlainWarehouse.walk(int,int)"
            + " throws java.util.NoSuchElementException,java.lang.IllegalArgumentException",
        "public int PlainWarehouse.way(int,int) throws java.lang.IllegalArgumentException",
        "public int PlainWarehouse.where(int,int)"
            + " throws java.util.NoSuchElementException,java.lang.IllegalArgumentException",
        "public void PlainWarehouse.back() throws java.lang.IllegalStateException",
    };

    public static void main(String[] args) {
        Class<?> type = PlainWarehouse.class;
        Due.same("the class", Modifier.toString(type.getModifiers()), "public final");
        Due.same("the constructors", constructors(type), "[public PlainWarehouse()]");
        Due.same("the methods", methods(type), new TreeSet<>(Arrays.asList(FACE)));
        Due.same("the fields", visibleFields(type), new TreeSet<String>());
        Due.end();
    }

    private static String constructors(Class<?> type) {
        TreeSet<String> constructors = new TreeSet<>();
        for (Constructor<?> constructor : type.getDeclaredConstructors()) {
            constructors.add(constructor.toString());
        }
        return constructors.toString();
    }

    private static TreeSet<String> methods(Class<?> type) {
        TreeSet<String> methods = new TreeSet<>();
        for (Method method : type.getDeclaredMethods()) {
            if (!Modifier.isPrivate(method.getModifiers())) {
                methods.add(method.toString());
            }
        }
        return methods;
    }

    private static TreeSet<String> visibleFields(Class<?> type) {
        TreeSet<String> fields = new TreeSet<>();
        for (Field field : type.getDeclaredFields()) {
            if (!Modifier.isPrivate(field.getModifiers())) {
                fields.add(field.toString());
            }
        }
        return fields;
    }
}
