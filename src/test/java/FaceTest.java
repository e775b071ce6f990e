import java.lang.reflect.Constructor;
import java.lang.reflect.Field;
import java.lang.reflect.Method;
import java.lang.reflect.Modifier;
import java.util.ArrayList;
import java.util.Arrays;
import java.util.Collections;
import java.util.List;

/** The public face: the class, its constructor and its methods as the document writes them, and no others. */
public final class FaceTest {
    /** What is returned, the name, what is taken, and which exceptions are named (by their first letters). */
    private static final String[] FACE = {
        "int day(int,int,int,int) A", "String date(int,int) A", "int feast(int,int,int) A", "int type(int) A S",
        "int wipe()", "int fault()", "int told()", "int pen(int,int,int,int,int,int) A", "String key()",
        "int enter(int,int,int,int) A S", "int mention(int,int) I A S", "int put(int,int,int) I A S",
        "int age(int,int) I A S", "int close(int) I", "int twins(int,int) I A S", "int same(int,int) I A S",
        "int demand(int,int,int) I A S", "int undemand(int) I", "int join(int,int,int) I A S",
        "int part(int,int) I A S", "int unsay(int) I", "int nick(int,int) I S", "int match(int,int,int,int,int) A",
        "int undo() S", "int knock()", "int person(int) I", "int likeness(int,int) I", "String saying(int) I",
        "String mentions(int) I", "int bound(int,boolean) I", "int apart(int,int) I", "String clash(boolean)",
        "int degree(int,int,boolean) I", "String bars(int,int) I", "int leave(int,int) I", "String common(int,int) I",
        "String line(int,boolean) I", "int forebear(int,int) I A", "int number(int,int) I",
        "String letters(int,int) I", "String tree(int) I", "int loops(int) I", "int alive(int,int) I A",
        "String household(int,int) I A", "String gap(int,int) A", "int ofEntry(int,int) I A",
        "int ofMention(int,int) I A", "int house(int) A", "boolean isSound()", "long digest()"
    };

    private FaceTest() {
    }

    public static void main(String[] args) {
        Class<?> face = Parishbook.class;
        Check.due("the class", "public final", () -> Modifier.toString(face.getModifiers()));
        Check.due("its package", "", () -> face.getPackageName());
        Check.due("what it extends", Object.class, () -> face.getSuperclass());
        Check.due("what it implements", 0, () -> face.getInterfaces().length);
        List<String> due = new ArrayList<>(Arrays.asList(FACE));
        Collections.sort(due);
        Check.due("the public methods", due, () -> methods(face));
        Constructor<?>[] constructors = face.getDeclaredConstructors();
        Check.due("one constructor", 1, () -> constructors.length);
        Check.due("it is public, takes nothing and throws nothing", "public Parishbook()",
                () -> constructors[0].toGenericString());
        hidden(face);
        Check.end();
    }

    private static List<String> methods(Class<?> face) {
        List<String> all = new ArrayList<>();
        for (Method method : face.getDeclaredMethods()) {
            if (Modifier.isPublic(method.getModifiers())) {
                all.add(told(method));
            }
        }
        Collections.sort(all);
        return all;
    }

    private static String told(Method method) {
        List<String> taken = new ArrayList<>();
        for (Class<?> type : method.getParameterTypes()) {
            taken.add(type.getSimpleName());
        }
        StringBuilder text = new StringBuilder(Modifier.isStatic(method.getModifiers()) ? "static " : "");
        text.append(method.getReturnType().getSimpleName()).append(' ').append(method.getName());
        text.append('(').append(String.join(",", taken)).append(')');
        for (Class<?> thrown : method.getExceptionTypes()) {
            text.append(thrown == IllegalArgumentException.class ? " A" : thrown == IllegalStateException.class ? " S"
                    : thrown == IndexOutOfBoundsException.class ? " I" : " " + thrown.getSimpleName());
        }
        return text.toString();
    }

    /** All else is private, and no private method bears the name of a public one. */
    private static void hidden(Class<?> face) {
        for (Field field : face.getDeclaredFields()) {
            Check.due("private: " + field, true, () -> Modifier.isPrivate(field.getModifiers()));
        }
        String names = String.join(" ", FACE);
        for (Method method : face.getDeclaredMethods()) {
            if (!Modifier.isPublic(method.getModifiers())) {
                Check.due("private: " + method, true, () -> Modifier.isPrivate(method.getModifiers()));
                Check.due("a name of its own: " + method, false, () -> names.contains(" " + method.getName() + "("));
            }
        }
        for (Class<?> inside : face.getDeclaredClasses()) {
            Check.due("not public, static: " + inside, true, () -> Modifier.isStatic(inside.getModifiers())
                    && !Modifier.isPublic(inside.getModifiers()) && !Modifier.isProtected(inside.getModifiers()));
        }
    }
}
