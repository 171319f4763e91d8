import java.lang.reflect.Constructor;
import java.lang.reflect.Field;
import java.lang.reflect.Method;
import java.lang.reflect.Modifier;
import java.util.TreeSet;

/** The public face of the document, and what LANGUAGE.md says of members (its rules 1, 2 and 5). */
public final class FaceTest {
    private static final Checks checks = new Checks();
    private static final String[] FACE = {
        "public int LiftedOdds.row(int,int,int,int)",
        "public int LiftedOdds.drop(int,int,int)",
        "public int LiftedOdds.atom(int,int,int)",
        "public void LiftedOdds.clearQuery()",
        "public boolean LiftedOdds.nested()",
        "public long LiftedOdds.weight()",
        "public long LiftedOdds.weightWith(int,int,int)",
        "public long LiftedOdds.weightWithout(int,int,int)",
        "public int LiftedOdds.worlds()",
        "public int LiftedOdds.heaviest()",
    };

    public static void main(String[] args) {
        classIsPublicAndFinal();
        methodsAreThoseOfTheDocument();
        constructorIsTheOneOfTheDocument();
        fieldsArePrivate();
        checks.end();
    }

    private static void classIsPublicAndFinal() {
        int modifiers = LiftedOdds.class.getModifiers();
        checks.due("class is public", Modifier.isPublic(modifiers), true);
        checks.due("class is final", Modifier.isFinal(modifiers), true);
        checks.due("nested classes", LiftedOdds.class.getDeclaredClasses().length, 0);
    }

    private static void methodsAreThoseOfTheDocument() {
        TreeSet<String> wanted = new TreeSet<>();
        TreeSet<String> publicNames = new TreeSet<>();
        for (String method : FACE) {
            wanted.add(method);
            publicNames.add(method.substring(method.indexOf('.') + 1, method.indexOf('(')));
        }
        for (Method method : LiftedOdds.class.getDeclaredMethods()) {
            if (Modifier.isPrivate(method.getModifiers())) {
                checks.due("private method of a public name: " + method,
                        publicNames.contains(method.getName()), false);
                checks.due("parameters of " + method, method.getParameterCount() <= 7, true);
            } else {
                checks.due("in the document: " + method, wanted.remove(method.toString()), true);
            }
        }
        checks.due("methods missing: " + wanted, wanted.size(), 0);
    }

    private static void constructorIsTheOneOfTheDocument() {
        Constructor<?>[] all = LiftedOdds.class.getDeclaredConstructors();
        checks.due("constructors", all.length, 1);
        checks.due("constructor is public", Modifier.isPublic(all[0].getModifiers()), true);
        checks.due("constructor's parameters", all[0].getParameterCount(), 0);
    }

    private static void fieldsArePrivate() {
        for (Field field : LiftedOdds.class.getDeclaredFields()) {
            int modifiers = field.getModifiers();
            checks.due("private: " + field, Modifier.isPrivate(modifiers), true);
            Class<?> type = field.getType();
            Class<?> part = type.isArray() ? type.getComponentType() : type;
            boolean plain = part.isPrimitive() && part != float.class && part != double.class;
            checks.due("type: " + field, plain, true);
            if (Modifier.isStatic(modifiers)) {
                boolean constant = Modifier.isFinal(modifiers) && (type == int.class || type == long.class);
                checks.due("constant: " + field, constant, true);
            }
        }
    }
}
