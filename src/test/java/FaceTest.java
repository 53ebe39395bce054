import java.lang.reflect.Constructor;
import java.lang.reflect.Field;
import java.lang.reflect.Member;
import java.lang.reflect.Method;
import java.lang.reflect.Modifier;
import java.util.Arrays;
import java.util.TreeSet;

/** The public face: all that the document has, and nothing else that another class could see. */
public final class FaceTest {
    private static final Check CHECK = new Check();
    private static final String[] FACE = {
        "int type(int)", "void clear()", "int read()", "boolean make(boolean,long,int)", "boolean divide(long,long)",
        "boolean exact()", "boolean inexact()", "int kind()", "boolean negative()", "long units()", "int place()",
        "int bits(boolean)", "int write(int)", "int out(int)", "boolean back()",
    };

    public static void main(String[] args) {
        Class<DoubleTexts> type = DoubleTexts.class;
        CHECK.same("class", Modifier.toString(type.getModifiers()), "public final");
        CHECK.same("superclass", type.getSuperclass().getName(), "java.lang.Object");
        TreeSet<String> seen = new TreeSet<>();
        for (Method method : type.getDeclaredMethods()) {
            if (isSeen(method)) {
                CHECK.same(method.getName(), Modifier.toString(method.getModifiers()), "public");
                seen.add(told(method));
            }
        }
        CHECK.same("methods", seen.toString(), new TreeSet<>(Arrays.asList(FACE)).toString());
        for (Field field : type.getDeclaredFields()) {
            CHECK.same("field " + field.getName() + " is seen", isSeen(field), false);
        }
        Constructor<?>[] constructors = type.getDeclaredConstructors();
        CHECK.same("constructors", constructors.length, 1);
        CHECK.same("constructor", constructors[0].toString(), "public DoubleTexts()");
        noOtherMethodBearsAName(type);
        CHECK.end();
    }

    private static boolean isSeen(Member member) {
        return !Modifier.isPrivate(member.getModifiers()) && !member.isSynthetic();
    }

    private static String told(Method method) {
        StringBuilder text = new StringBuilder(method.getReturnType() + " " + method.getName() + "(");
        for (int i = 0; i < method.getParameterCount(); i++) {
            text.append(i > 0 ? "," : "").append(method.getParameterTypes()[i]);
        }
        return text.append(")").toString();
    }

    private static void noOtherMethodBearsAName(Class<?> type) {
        for (Class<?> inside : type.getDeclaredClasses()) {
            CHECK.same(inside + " is static", Modifier.isStatic(inside.getModifiers()), true);
            for (Method method : inside.getDeclaredMethods()) {
                for (String of : FACE) {
                    boolean bears = of.contains(" " + method.getName() + "(");
                    CHECK.same(inside + "." + method.getName() + " bears a name of the face", bears, false);
                }
            }
        }
    }
}
