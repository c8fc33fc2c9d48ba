import java.lang.reflect.Constructor;
import java.lang.reflect.Field;
import java.lang.reflect.Method;
import java.lang.reflect.Modifier;
import java.util.Arrays;
import java.util.TreeSet;

/** The public face: the document's members and no other that is not private. */
public final class FaceTest {
    private static final String[] FACE = {
        "void begin(int,int,int,long,int) [IllegalArgumentException]",
        "int option(int,long,int) [IllegalArgumentException, IllegalStateException]",
        "int longer(long,int) [IllegalArgumentException, IllegalStateException]",
        "int payload(long,int) [IllegalArgumentException, IllegalStateException]",
        "int write() [IllegalStateException]",
        "int feed(long,int) [IllegalArgumentException, IllegalStateException]",
        "void end(int) [IllegalArgumentException]",
        "int read() [UnsupportedOperationException]",
        "int about(int) [IllegalArgumentException]",
        "int byteOf(int,int) [IllegalArgumentException]",
        "int optionAt(int,int) [IllegalArgumentException]",
        "int serve(int) [IllegalArgumentException]",
        "int hand(int) []",
        "int total(int) [IllegalArgumentException]",
        "int resource(int,int) [IllegalArgumentException]",
    };

    private static String told(Method method) {
        StringBuilder text = new StringBuilder();
        text.append(method.getReturnType().getSimpleName()).append(' ').append(method.getName()).append('(');
        Class<?>[] types = method.getParameterTypes();
        for (int i = 0; i < types.length; i++) {
            text.append(i > 0 ? "," : "").append(types[i].getSimpleName());
        }
        String[] thrown = Arrays.stream(method.getExceptionTypes()).map(Class::getSimpleName).toArray(String[]::new);
        return text.append(") ").append(Arrays.toString(thrown)).toString();
    }

    public static void main(String[] args) {
        Checks checks = new Checks();
        TreeSet<String> methods = new TreeSet<>();
        TreeSet<String> publicNames = new TreeSet<>();
        for (Method method : CoapDesk.class.getDeclaredMethods()) {
            if (!Modifier.isPrivate(method.getModifiers())) {
                methods.add(told(method));
                publicNames.add(method.getName());
                checks.same(method + " is public", Modifier.isPublic(method.getModifiers()) ? 1 : 0, 1);
            }
        }
        checks.same("the methods", methods.toString(), new TreeSet<>(Arrays.asList(FACE)).toString());
        for (Method method : CoapDesk.class.getDeclaredMethods()) {
            boolean hidden = Modifier.isPrivate(method.getModifiers());
            checks.same(method + " bears a public name", hidden && publicNames.contains(method.getName()) ? 1 : 0, 0);
        }
        for (Field field : CoapDesk.class.getDeclaredFields()) {
            boolean visible = !Modifier.isPrivate(field.getModifiers());
            checks.same(field + " is visible", visible ? 1 : 0, field.getName().equals("NONE") ? 1 : 0);
        }
        for (Class<?> inside : CoapDesk.class.getDeclaredClasses()) {
            int modifiers = inside.getModifiers();
            boolean fits = Modifier.isStatic(modifiers) && !Modifier.isPublic(modifiers);
            checks.same(inside + " is static and not public", fits ? 1 : 0, 1);
        }
        Constructor<?>[] constructors = CoapDesk.class.getDeclaredConstructors();
        checks.same("constructors", constructors.length, 1);
        checks.same("parameters of it", constructors[0].getParameterCount(), 0);
        checks.same("it is public", constructors[0].getModifiers(), Modifier.PUBLIC);
        checks.same("the class is public and final", CoapDesk.class.getModifiers(), Modifier.PUBLIC | Modifier.FINAL);
        checks.same("NONE", CoapDesk.NONE, -1);
        checks.finish();
    }
}
