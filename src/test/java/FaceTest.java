import java.lang.reflect.Constructor;
import java.lang.reflect.Field;
import java.lang.reflect.Method;
import java.lang.reflect.Modifier;
import java.util.Arrays;
import java.util.HashSet;
import java.util.Set;
import java.util.TreeSet;

/** The public face is the document's and no more; the file keeps to what of LANGUAGE.md reflection can see. */
public final class FaceTest {
    private static final String[] FACE = {
        "int feed(long,long,long)", "int street()", "int morning()", "int line(int,int)", "int cloth(int,int)",
        "int place(int,int)", "int hang(int,int,int)", "int take(int)", "boolean wash(int)", "int hour()",
        "boolean undo()", "int judged(int)", "int later(int,int)", "int dry(int)", "int clears(int)",
        "boolean want(int,int)", "int wish(int)", "int lift(int,int)", "boolean tell(int,int,int)", "int pairs(int)",
        "int look(int)", "int rainbows()", "int quarrels()", "int best(int)", "int owes(int)",
        "int chance(int,int,int)", "int same()", "int storm()", "int last()", "int rests(int,int,int,int)",
        "int mays(int,int,int)", "boolean mark(int,boolean)", "int count(int)"};
    private static final Due DUE = new Due();

    public static void main(String[] args) {
        face();
        members();
        for (Class<?> inside : LaundrySky.class.getDeclaredClasses()) {
            inside(inside);
        }
        DUE.end("FaceTest");
    }

    private static void face() {
        Set<String> found = new TreeSet<>();
        for (Method method : LaundrySky.class.getDeclaredMethods()) {
            if (!Modifier.isPrivate(method.getModifiers()) && !method.isSynthetic()) {
                String types = String.join(",",
                    Arrays.stream(method.getParameterTypes()).map(Class::getName).toList());
                found.add(method.getReturnType().getName() + " " + method.getName() + "(" + types + ")");
                DUE.due(method.getName() + " is public", Modifier.isPublic(method.getModifiers()), true);
                DUE.due(method.getName() + " is not static", Modifier.isStatic(method.getModifiers()), false);
            }
        }
        DUE.due("the face " + found, found.equals(new TreeSet<>(Arrays.asList(FACE))), true);
        DUE.due("the class is public and final",
            Modifier.isFinal(LaundrySky.class.getModifiers()) && Modifier.isPublic(LaundrySky.class.getModifiers()),
            true);
        Constructor<?>[] constructors = LaundrySky.class.getDeclaredConstructors();
        DUE.due("one constructor", constructors.length, 1);
        DUE.due("it is public", Modifier.isPublic(constructors[0].getModifiers()), true);
        DUE.due("without parameters", constructors[0].getParameterCount(), 0);
    }

    private static void members() {
        Set<String> names = new HashSet<>();
        for (Method method : LaundrySky.class.getDeclaredMethods()) {
            if (Modifier.isPublic(method.getModifiers())) {
                names.add(method.getName());
            }
        }
        for (Method method : LaundrySky.class.getDeclaredMethods()) {
            if (Modifier.isPrivate(method.getModifiers())) {
                DUE.due(method.getName() + " bears a public one's name", names.contains(method.getName()), false);
            }
        }
        for (Field field : LaundrySky.class.getDeclaredFields()) {
            boolean constant = field.getName().equals("NONE");
            DUE.due(field.getName() + " is private", Modifier.isPrivate(field.getModifiers()), !constant);
        }
        statics(LaundrySky.class);
    }

    private static void inside(Class<?> inside) {
        DUE.due(inside + " is static", Modifier.isStatic(inside.getModifiers()), true);
        DUE.due(inside + " is public or protected",
            (inside.getModifiers() & (Modifier.PUBLIC | Modifier.PROTECTED)) != 0, false);
        statics(inside);
        for (Method method : inside.getDeclaredMethods()) {
            DUE.due(method + " takes more than seven", method.getParameterCount() > 7, false);
        }
    }

    private static void statics(Class<?> owner) {
        int fields = 0;
        for (Field field : owner.getDeclaredFields()) {
            if (Modifier.isStatic(field.getModifiers())) {
                DUE.due(field + " is final", Modifier.isFinal(field.getModifiers()), true);
            } else {
                fields++;
            }
        }
        DUE.due(owner + " has more than twenty fields", fields > 20, false);
    }
}
