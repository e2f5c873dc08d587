import java.lang.reflect.Constructor;
import java.lang.reflect.Field;
import java.lang.reflect.Method;
import java.lang.reflect.Modifier;
import java.util.Set;
import java.util.TreeSet;

/** The class has the members of the document's public face, and no others that can be seen. */
public final class FaceTest {
    private static final String[] FACE = {
        "boolean now(int)", "boolean feast(int,int,int)", "int isFeast(int)", "int moon(int,int)",
        "int feed(int,int,int,int,int)", "int law(int,boolean,int)", "int rules(int,boolean)", "int thing(int)",
        "int act(int,int,int,int,boolean)", "boolean strike(int)", "int mistake(int,int,int)",
        "int mark(int,int,int,int,int)", "int since(int,int,int,int,int,int)", "int quarrel(int,int)",
        "int leads(int,int,int,int)", "int reached(int,int,int)", "int way(int,int,int,int)", "int mend(int,int,int)",
        "int kitchen(int,int,int,int)", "boolean oversee(int,int)", "boolean trust(int,int,boolean)",
        "int lot(int,int)", "boolean pass(int,int,int,int,boolean)", "int units(int,int)", "int good(int,int,int,int)",
        "int recall(int)", "int visitor(int,int)", "boolean seed(int,int)", "int draw()", "int row()",
        "int visit(int,int)", "int tour(int)", "int stop(int,int)", "boolean word(int,int,int,boolean)",
        "int believed(int,int)", "int look(int,int)", "int count(int)",
    };

    public static void main(String[] args) {
        Check check = new Check("FaceTest");
        Set<String> face = new TreeSet<>(Set.of(FACE));
        Set<String> publicNames = new TreeSet<>();
        for (String method : FACE) {
            publicNames.add(method.substring(method.indexOf(' ') + 1, method.indexOf('(')));
        }
        Set<String> seen = new TreeSet<>();
        for (Method method : SealBook.class.getDeclaredMethods()) {
            if (Modifier.isPrivate(method.getModifiers())) {
                check.is("a private method is named as no public one: " + method.getName(),
                        !publicNames.contains(method.getName()));
            } else {
                check.is(method + " is public and of objects", method.getModifiers() == Modifier.PUBLIC);
                seen.add(signature(method));
            }
        }
        check.is("methods " + seen, seen.equals(face));
        for (Class<?> inside : SealBook.class.getDeclaredClasses()) {
            for (Method method : inside.getDeclaredMethods()) {
                check.is("named as no public one: " + method, !publicNames.contains(method.getName()));
            }
        }
        checkTheRest(check);
        check.end();
    }

    private static void checkTheRest(Check check) {
        check.is("the class is public and final",
                SealBook.class.getModifiers() == (Modifier.PUBLIC | Modifier.FINAL));
        for (Field field : SealBook.class.getDeclaredFields()) {
            boolean isFace = field.getName().equals("NONE") && field.getType() == int.class
                    && field.getModifiers() == (Modifier.PUBLIC | Modifier.STATIC | Modifier.FINAL);
            check.is("field " + field, isFace || Modifier.isPrivate(field.getModifiers()));
        }
        check.due("NONE", SealBook.NONE, -1);
        Constructor<?>[] constructors = SealBook.class.getDeclaredConstructors();
        check.due("constructors", constructors.length, 1);
        check.is("the constructor is public and takes nothing",
                Modifier.isPublic(constructors[0].getModifiers()) && constructors[0].getParameterCount() == 0);
        for (Class<?> inside : SealBook.class.getDeclaredClasses()) {
            int modifiers = inside.getModifiers();
            check.is(inside + " is static and not public", Modifier.isStatic(modifiers)
                    && !Modifier.isPublic(modifiers) && !Modifier.isProtected(modifiers));
        }
    }

    private static String signature(Method method) {
        StringBuilder text = new StringBuilder(method.getReturnType().getName());
        text.append(' ').append(method.getName()).append('(');
        for (int k = 0; k < method.getParameterCount(); k++) {
            text.append(k == 0 ? "" : ",").append(method.getParameterTypes()[k].getName());
        }
        return text.append(')').toString();
    }
}
