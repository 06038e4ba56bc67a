import java.lang.reflect.Constructor;
import java.lang.reflect.Field;
import java.lang.reflect.Method;
import java.lang.reflect.Modifier;
import java.util.ArrayList;
import java.util.Arrays;
import java.util.Collections;
import java.util.List;

/** The public face is the document's, and nothing else can be seen from outside. */
public final class FaceTest {
    private static final String[] CALLS = {
        "door(int,int,int)", "key(int,int)", "told(int,int)", "of(int,int)", "type(long,int)", "house()", "week()",
        "count(int)", "visit(int,int,int)", "wash(int,int)", "change(int,int)", "next()", "shown(int,int)",
        "seen(int,int,int)", "reach(int)", "fits(int,int,int)", "been(int,int,int)", "look(int,int,int)", "image()",
        "restore()", "asked(int,int,int,int,int)", "film(int,int,int)", "sheet(int,int,int)", "drop(int)",
        "item(int,int,int,int)", "copy(int,int,int,int,int)"};

    public static void main(String[] args) {
        Due due = new Due("FaceTest");
        constants(due);
        members(due);
        due.end();
    }

    private static void constants(Due due) {
        due.is("BAD", -1, TellKeys.BAD);
        due.is("NOT", -2, TellKeys.NOT);
        due.is("FULL", -3, TellKeys.FULL);
        due.is("NONE", -4, TellKeys.NONE);
        due.is("NULL", -11, TellKeys.NULL);
        due.is("CAST", -12, TellKeys.CAST);
        due.is("INDEX", -13, TellKeys.INDEX);
        due.is("SIZE", -14, TellKeys.SIZE);
    }

    private static void members(Due due) {
        int flags = TellKeys.class.getModifiers();
        due.holds("the class is public and final", Modifier.isPublic(flags) && Modifier.isFinal(flags));
        List<String> seen = new ArrayList<>();
        List<String> hidden = new ArrayList<>();
        for (Method method : TellKeys.class.getDeclaredMethods()) {
            if (Modifier.isPrivate(method.getModifiers())) {
                hidden.add(method.getName());
            } else {
                boolean plain = method.getModifiers() == Modifier.PUBLIC && method.getReturnType() == int.class;
                due.holds(method.getName() + " is a plain public int method", plain);
                seen.add(method.getName() + typesOf(method.getParameterTypes()));
            }
        }
        List<String> told = new ArrayList<>(Arrays.asList(CALLS));
        Collections.sort(told);
        Collections.sort(seen);
        due.holds("the calls are those of the document: " + seen, seen.equals(told));
        for (String call : CALLS) {
            String name = call.substring(0, call.indexOf('('));
            due.holds("no private method is named " + name, !hidden.contains(name));
        }
        for (Field field : TellKeys.class.getDeclaredFields()) {
            boolean shut = Modifier.isPrivate(field.getModifiers());
            due.holds(field.getName() + " is private or told", shut || isTold(field.getName()));
        }
        Constructor<?>[] made = TellKeys.class.getDeclaredConstructors();
        due.holds("one public constructor", made.length == 1 && Modifier.isPublic(made[0].getModifiers())
            && made[0].getParameterCount() == 0);
        for (Class<?> inside : TellKeys.class.getDeclaredClasses()) {
            int how = inside.getModifiers();
            boolean open = Modifier.isPublic(how) || Modifier.isProtected(how);
            due.holds(inside.getName() + " is static and not open", Modifier.isStatic(how) && !open);
        }
    }

    private static boolean isTold(String constant) {
        return Arrays.asList("BAD", "NOT", "FULL", "NONE", "NULL", "CAST", "INDEX", "SIZE").contains(constant);
    }

    private static String typesOf(Class<?>[] types) {
        StringBuilder text = new StringBuilder("(");
        for (Class<?> type : types) {
            text.append(text.length() > 1 ? "," : "").append(type.getName());
        }
        return text.append(')').toString();
    }
}
