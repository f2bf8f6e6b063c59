import java.lang.reflect.Constructor;
import java.lang.reflect.Executable;
import java.lang.reflect.Field;
import java.lang.reflect.Method;
import java.lang.reflect.Modifier;
import java.util.Arrays;
import java.util.TreeSet;
import java.util.stream.Collectors;

/** The class has the document's public face, and no other member that can be seen from outside. */
public final class FaceTest {
    private static final String IOOB = Check.INDEX;
    private static final String ISE = Check.TURN;
    private static final String IAE = Check.RANGE;
    private static final String UOE = Check.MEANING;

    public static void main(String[] args) {
        Check check = new Check("FaceTest");
        TreeSet<String> want = new TreeSet<>(Arrays.asList(
                face("FewChanges()"),
                face("int order(int,int)", ISE, IAE),
                face("int heat(int,int,int,int,int)", IOOB, ISE, IAE, UOE),
                face("int stop(int,int,int)", IOOB, ISE, IAE),
                face("void go()"),
                face("void clock(int,int)", IAE),
                face("void place(int,int,int)", IOOB, ISE, IAE, UOE),
                face("void divert(int,int)", IOOB, UOE),
                face("int run(int)", IAE),
                face("int told(int)", IOOB, ISE),
                face("int at(int,int)", IOOB),
                face("int cost()"),
                face("int on(int,int)", IOOB, IAE),
                face("void keep(int)", IOOB),
                face("int compare(int)", IOOB, ISE),
                face("void use(int)", IOOB, ISE),
                face("void undo()", ISE)));
        check.same("the face", visible().toString(), want.toString());
        check.same("public and final", Modifier.toString(FewChanges.class.getModifiers()), "public final");
        check.end();
    }

    private static String face(String signature, String... exceptions) {
        return "public " + signature + " throws " + Arrays.toString(exceptions);
    }

    private static TreeSet<String> visible() {
        TreeSet<String> seen = new TreeSet<>();
        for (Constructor<?> made : FewChanges.class.getDeclaredConstructors()) {
            add(seen, made, "FewChanges");
        }
        for (Method method : FewChanges.class.getDeclaredMethods()) {
            add(seen, method, method.getReturnType().getSimpleName() + " " + method.getName());
        }
        for (Field field : FewChanges.class.getDeclaredFields()) {
            if (!Modifier.isPrivate(field.getModifiers())) {
                seen.add("field " + field.getName());
            }
        }
        return seen;
    }

    private static void add(TreeSet<String> seen, Executable member, String name) {
        if (!Modifier.isPrivate(member.getModifiers())) {
            seen.add(Modifier.toString(member.getModifiers()) + " " + name
                    + Arrays.stream(member.getParameterTypes()).map(Class::getSimpleName)
                            .collect(Collectors.joining(",", "(", ")"))
                    + " throws " + Arrays.stream(member.getExceptionTypes()).map(Class::getSimpleName)
                            .collect(Collectors.toList()));
        }
    }
}
