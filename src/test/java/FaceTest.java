import java.lang.reflect.Constructor;
import java.lang.reflect.Field;
import java.lang.reflect.Member;
import java.lang.reflect.Method;
import java.lang.reflect.Modifier;
import java.util.Arrays;
import java.util.Set;
import java.util.TreeSet;
import java.util.stream.Collectors;

/** The public face of the document: the rule 1 of LANGUAGE.md, and what of the rules 2 and 5 is seen from outside. */
public final class FaceTest {
    private static final Set<String> METHODS = Set.of("addTable()", "addReference(int, int, int, boolean, int)",
            "setRule(int, int)", "insert(int, int, int, int)", "update(int, int, int, int)", "delete(int, int)",
            "type(char)", "clearText()", "perform()", "undo()", "keep()", "restore()", "rows(int)",
            "keyAt(int, int)", "value(int, int, int)", "children(int, int)", "reference(int, int)", "deleted(int)",
            "total(int)", "gathered(int, int, int)", "reason(int, int)", "blocking(int, int)",
            "wouldChange(int, int)", "isInRing(int, int)", "deletable(int)");
    private static final String[] CONSTANTS = {"UNKNOWN", "OUT_OF_RANGE", "FULL", "DUPLICATE", "REQUIRED",
        "NO_PARENT", "NOT_POSSIBLE", "NONE"};

    private final Check check = new Check();

    public static void main(String[] args) throws ReflectiveOperationException {
        FaceTest test = new FaceTest();
        test.face();
        test.constants();
        test.innerClasses();
        test.check.end();
    }

    private void face() {
        Class<?> face = SpreadingDeletes.class;
        check.due("modifiers of the class", face.getModifiers(), Modifier.PUBLIC | Modifier.FINAL);
        check.due("constructors", face.getDeclaredConstructors().length, 1);
        Constructor<?> constructor = face.getDeclaredConstructors()[0];
        check.due("the constructor is public", constructor.getModifiers(), Modifier.PUBLIC);
        check.due("parameters of the constructor", constructor.getParameterCount(), 0);
        Set<String> methods = new TreeSet<>();
        Set<String> names = new TreeSet<>();
        for (Method method : face.getDeclaredMethods()) {
            if (isHidden(method)) {
                continue;
            }
            methods.add(told(method));
            names.add(method.getName());
            check.due("modifiers of " + told(method), method.getModifiers(), Modifier.PUBLIC);
            check.holds("int from " + told(method), method.getReturnType() == int.class);
        }
        check.holds("methods " + methods, methods.equals(METHODS));
        for (Class<?> inner : face.getDeclaredClasses()) {
            for (Method method : inner.getDeclaredMethods()) {
                check.holds("its own name: " + method, !names.contains(method.getName()));
            }
        }
    }

    private void constants() throws ReflectiveOperationException {
        for (int index = 0; index < CONSTANTS.length; index++) {
            Field field = SpreadingDeletes.class.getDeclaredField(CONSTANTS[index]);
            check.due("modifiers of " + field, field.getModifiers(), Modifier.PUBLIC | Modifier.STATIC | Modifier.FINAL);
            check.due(field.getName(), field.getInt(null), -2 - index);
        }
        long open = Arrays.stream(SpreadingDeletes.class.getDeclaredFields()).filter(field -> !isHidden(field)).count();
        check.due("fields that can be seen", (int) open, CONSTANTS.length);
    }

    private void innerClasses() {
        for (Class<?> inner : SpreadingDeletes.class.getDeclaredClasses()) {
            check.holds("static, hidden: " + inner, Modifier.isStatic(inner.getModifiers())
                    && !Modifier.isPublic(inner.getModifiers()) && !Modifier.isProtected(inner.getModifiers()));
        }
        for (Class<?> any : SpreadingDeletes.class.getNestMembers()) {
            for (Field field : any.getDeclaredFields()) {
                check.holds("no static state: " + field,
                        !Modifier.isStatic(field.getModifiers()) || Modifier.isFinal(field.getModifiers()));
            }
        }
    }

    private static boolean isHidden(Member member) {
        return Modifier.isPrivate(member.getModifiers()) || member.isSynthetic();
    }

    private static String told(Method method) {
        return method.getName() + Arrays.stream(method.getParameterTypes()).map(Class::getName)
                .collect(Collectors.joining(", ", "(", ")"));
    }
}
