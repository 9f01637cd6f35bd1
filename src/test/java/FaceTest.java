import java.lang.reflect.Constructor;
import java.lang.reflect.Field;
import java.lang.reflect.Method;
import java.lang.reflect.Modifier;
import java.util.Arrays;
import java.util.Set;
import java.util.TreeSet;

/** The class has the document's face and no other, and its members keep to LANGUAGE.md's rules 1, 5 and 11. */
public final class FaceTest {
    private static final String[] FACE = {
        "int row(int,int,int)", "int set(int,int,int)", "int copy(int,int,int,int,int)", "int drop(int)",
        "int feed(int)", "int table()", "int fault()", "int undo()", "int play(int)", "int move(int,int)",
        "int twice()", "int lay(int,int)", "int man(int,int)", "int on(int,int)", "int stand(int)", "int may(int)",
        "int whither(int,int)", "int shots(int)", "int enter(int)", "int pips(int,int)", "int best(int,int,int)",
        "int race(int)", "int safe(int)", "int cast(int,int)", "int played(int,int,int)", "int kinds(int,int,int,int)",
        "long chance(int,int,int)", "int drawn(int,int,int)", "int image(int)", "int restore(int)", "int kind(int)",
        "int as(int,int)", "int ask(int,int)", "int trace(int)", "int count(int)", "int status()"};
    private static final Set<String> CONSTANTS = Set.of("NONE", "BAD", "STATE", "FULL");

    private static int wrong = 0;

    public static void main(String[] args) throws Exception {
        Class<?> face = TableFirms.class;
        check(face.getModifiers() == (Modifier.PUBLIC | Modifier.FINAL), "the class is public and final");
        check(TableFirms.NONE == -1000000 && TableFirms.BAD == -1000001, "NONE, BAD");
        check(TableFirms.STATE == -1000002 && TableFirms.FULL == -1000003, "STATE, FULL");
        Set<String> open = new TreeSet<>();
        Set<String> names = new TreeSet<>();
        for (Method method : face.getDeclaredMethods()) {
            if (!Modifier.isPrivate(method.getModifiers())) {
                check(method.getModifiers() == Modifier.PUBLIC, method + " is public alone");
                open.add(signature(method));
                names.add(method.getName());
            }
        }
        check(open.equals(new TreeSet<>(Arrays.asList(FACE))), "the methods are the document's: " + open);
        for (Constructor<?> made : face.getDeclaredConstructors()) {
            check(made.getParameterCount() == 0 && made.getModifiers() == Modifier.PUBLIC, "one public constructor");
        }
        fieldsOf(face);
        check(face.getDeclaredClasses().length < 12, "some twelve classes at most");
        for (Class<?> inside : face.getDeclaredClasses()) {
            int modifiers = inside.getModifiers();
            check(Modifier.isStatic(modifiers) && !Modifier.isPublic(modifiers) && !Modifier.isProtected(modifiers), inside + " is static");
            fieldsOf(inside);
            for (Method method : inside.getDeclaredMethods()) {
                check(!names.contains(method.getName()), method + " has a name of its own");
                check(method.getParameterCount() <= 7, method + " takes seven at most");
            }
        }
        for (Method method : face.getDeclaredMethods()) {
            check(!Modifier.isPrivate(method.getModifiers()) || !names.contains(method.getName()), method + " has a name of its own");
        }
        System.out.println(wrong == 0 ? "the face is as told" : wrong + " things of the face are not as told");
        if (wrong != 0) {
            System.exit(1);
        }
    }

    private static void fieldsOf(Class<?> type) {
        int fields = 0;
        for (Field field : type.getDeclaredFields()) {
            int modifiers = field.getModifiers();
            if (Modifier.isStatic(modifiers)) {
                check(Modifier.isFinal(modifiers), field + " is final");
            } else {
                fields++;
            }
            boolean isConstant = type == TableFirms.class && CONSTANTS.contains(field.getName());
            check(type != TableFirms.class || Modifier.isPrivate(modifiers) != isConstant, field + " is open just if it is told");
        }
        check(fields <= 20, type + " has some twenty fields at most");
    }

    private static String signature(Method method) {
        StringBuilder text = new StringBuilder(method.getReturnType().getName()).append(' ').append(method.getName()).append('(');
        for (Class<?> type : method.getParameterTypes()) {
            text.append(text.charAt(text.length() - 1) == '(' ? "" : ",").append(type.getName());
        }
        return text.append(')').toString();
    }

    private static void check(boolean holds, String what) {
        if (!holds) {
            wrong++;
            System.out.println("not so: " + what);
        }
    }
}
