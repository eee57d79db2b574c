import java.lang.reflect.Constructor;
import java.lang.reflect.Field;
import java.lang.reflect.Method;
import java.lang.reflect.Modifier;
import java.util.ArrayList;
import java.util.List;
import java.util.TreeSet;

/** Those rules of LANGUAGE.md that can be seen from the compiled classes: 1, 2, 3, 5 and 11. */
public final class LanguageTest {
    private static final Due DUE = new Due();

    public static void main(String[] args) {
        List<Class<?>> all = new ArrayList<>();
        all.add(IceTrade.class);
        for (Class<?> inside : IceTrade.class.getDeclaredClasses()) {
            all.add(inside);
            classInside(inside);
        }
        DUE.says("rule 11", "the file has at most some twelve classes");
        DUE.holds("classes: " + all.size(), all.size() <= 12);
        for (Class<?> one : all) {
            fields(one);
            methods(one);
        }
        DUE.says("rule 1", "with the public constructor, methods and constants of the document and no other");
        Constructor<?>[] made = IceTrade.class.getDeclaredConstructors();
        DUE.due("constructors", made.length, 1);
        DUE.holds("it is public and takes nothing", Modifier.isPublic(made[0].getModifiers()) && made[0].getParameterCount() == 0);
        DUE.end();
    }

    private static void classInside(Class<?> inside) {
        DUE.says("rule 1", "the classes inside it, which are private or package-visible and static");
        int modifiers = inside.getModifiers();
        DUE.holds(inside.getName(), Modifier.isStatic(modifiers) && !Modifier.isPublic(modifiers) && !Modifier.isProtected(modifiers));
        DUE.due("classes within " + inside.getName(), inside.getDeclaredClasses().length, 0);
    }

    private static void fields(Class<?> one) {
        int own = 0;
        for (Field field : one.getDeclaredFields()) {
            String name = one.getName() + "." + field.getName();
            boolean isStatic = Modifier.isStatic(field.getModifiers());
            own += isStatic ? 0 : 1;
            DUE.says("rule 5", "Static fields are final");
            DUE.holds(name, !isStatic || Modifier.isFinal(field.getModifiers()));
            DUE.says("rule 1", "no other public, protected or package-visible member");
            DUE.holds(name, one != IceTrade.class || field.getName().equals("NONE") || Modifier.isPrivate(field.getModifiers()));
            DUE.says("rule 3", "Types");
            DUE.holds(name + " is of " + field.getType(), isOfOurs(field.getType()));
        }
        DUE.says("rule 11", "a class some twenty fields beside its constants");
        DUE.holds(one.getName() + " has " + own, own <= 20);
    }

    /** Numbers, booleans, own classes, and arrays of one dimension of these: more is not needed here. */
    private static boolean isOfOurs(Class<?> type) {
        Class<?> element = type.isArray() ? type.getComponentType() : type;
        return element.isPrimitive() || element.getName().startsWith("IceTrade$");
    }

    private static void methods(Class<?> one) {
        TreeSet<String> face = new TreeSet<>();
        for (Method method : IceTrade.class.getDeclaredMethods()) {
            if (Modifier.isPublic(method.getModifiers())) {
                face.add(method.getName());
            }
        }
        for (Method method : one.getDeclaredMethods()) {
            String name = one.getName() + "." + method.getName();
            DUE.says("rule 1", "No private method bears the name of a public one");
            DUE.holds(name, Modifier.isPublic(method.getModifiers()) || !face.contains(method.getName()));
            DUE.says("rule 11", "A method takes at most seven parameters");
            DUE.holds(name, method.getParameterCount() <= 7);
            DUE.says("rule 2", "no lambda, no method reference");
            DUE.holds(name, !method.isSynthetic());
            DUE.says("rule 6", "nothing else ever reaches its caller");
            DUE.due("exceptions that " + name + " declares", method.getExceptionTypes().length, 0);
        }
    }
}
