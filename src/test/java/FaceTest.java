import java.lang.reflect.Constructor;
import java.lang.reflect.Field;
import java.lang.reflect.Member;
import java.lang.reflect.Method;
import java.lang.reflect.Modifier;
import java.util.Set;
import java.util.TreeSet;

/** The public face of the class, and what LANGUAGE.md says of members (rules 1, 5 and 11). */
public final class FaceTest {
    private static final Set<String> FACE = new TreeSet<>(Set.of("int begin(int)", "int setPlaces(int,int)",
            "int addFact(int,int,int,int,int)", "int removeFact(int)", "int facts()", "int removeRule(int)",
            "int rules()", "int append(int)", "int clearText()", "int faultPosition()", "int addRule(int)",
            "int stratum(int)", "int size()", "int count(int)", "int rounds()", "int round(int,int,int)",
            "int instances(int,int,int)", "int cost(int,int,int)", "int likelihood(int,int,int)",
            "int least(int,int,int,int)", "int needs(int,int,int)", "int cut(int,int,int)", "int sizeWithout(int)",
            "int holdsWithout(int,int,int,int)", "int save(int)", "int restore(int)", "long checksum()"));
    private static final Set<String> CONSTANTS = new TreeSet<>(Set.of("BAD_INDEX", "BAD_VALUE", "NOT_POSSIBLE",
            "FULL", "NONE", "NO_MODEL"));
    private static final Set<Class<?>> STATIC_TYPES = Set.of(int.class, long.class, boolean.class, char.class,
            String.class, int[].class, long[].class, char[].class, byte[].class);
    private static final int MOST_PARAMETERS = 7;

    private static final Check CHECK = new Check("FaceTest");

    private FaceTest() {
    }

    public static void main(String[] args) {
        Set<String> methods = new TreeSet<>();
        Set<String> names = new TreeSet<>();
        for (Method method : FactOrigins.class.getDeclaredMethods()) {
            if (isPublic(method)) {
                methods.add(signature(method));
                names.add(method.getName());
            }
        }
        yes("the methods of the face are " + methods, methods.equals(FACE));
        Set<String> constants = new TreeSet<>();
        for (Field field : FactOrigins.class.getDeclaredFields()) {
            if (isPublic(field)) {
                constants.add(field.getName());
            }
        }
        yes("the constants of the face are " + constants, constants.equals(CONSTANTS));
        Constructor<?>[] constructors = FactOrigins.class.getDeclaredConstructors();
        yes("there is one constructor", constructors.length == 1 && isPublic(constructors[0])
                && constructors[0].getParameterCount() == 0);
        checkClass(FactOrigins.class, names);
        for (Class<?> inside : FactOrigins.class.getDeclaredClasses()) {
            int modifiers = inside.getModifiers();
            yes(inside + " is static", Modifier.isStatic(modifiers));
            yes(inside + " is not public", !Modifier.isPublic(modifiers) && !Modifier.isProtected(modifiers));
            checkClass(inside, names);
        }
        CHECK.end();
    }

    private static void checkClass(Class<?> checked, Set<String> names) {
        for (Method method : checked.getDeclaredMethods()) {
            if (method.isSynthetic()) {
                continue;
            }
            yes(method + " takes at most seven", method.getParameterCount() <= MOST_PARAMETERS);
            yes(method + " bears no name of the face", isPublic(method) || !names.contains(method.getName()));
            checkHidden(checked, method);
        }
        for (Field field : checked.getDeclaredFields()) {
            if (Modifier.isStatic(field.getModifiers())) {
                yes(field + " is final", Modifier.isFinal(field.getModifiers()));
                yes(field + " has a type that is allowed", STATIC_TYPES.contains(field.getType()));
            }
            checkHidden(checked, field);
        }
    }

    private static void checkHidden(Class<?> checked, Member member) {
        boolean hidden = checked != FactOrigins.class || isPublic(member) || Modifier.isPrivate(member.getModifiers());
        yes(member + " is public or private", hidden && !Modifier.isProtected(member.getModifiers()));
    }

    private static boolean isPublic(Member member) {
        return Modifier.isPublic(member.getModifiers());
    }

    private static String signature(Method method) {
        StringBuilder made = new StringBuilder().append(method.getReturnType()).append(' ').append(method.getName());
        made.append('(');
        for (int i = 0; i < method.getParameterCount(); i++) {
            made.append(i == 0 ? "" : ",").append(method.getParameterTypes()[i]);
        }
        return made.append(')').toString();
    }

    private static void yes(String what, boolean holds) {
        CHECK.due(what, holds ? 1 : 0, 1);
    }
}
