import java.lang.reflect.Constructor;
import java.lang.reflect.Field;
import java.lang.reflect.Member;
import java.lang.reflect.Method;
import java.lang.reflect.Modifier;
import java.util.ArrayList;
import java.util.Collections;
import java.util.List;

/** The public face: its constants, its constructor, its methods, and nothing else. */
public final class FaceTest {
    private static final String[] DUE = {
        "NONE=-1", "NUMBER=0", "FUNCTION=1", "LIST=2", "STUCK=3", "LOOP=4", "TOO_FAR=5",
        "SIMPLIFY=0", "FLOAT_IN=1", "FLOAT_OUT=2", "ARITY=3", "STRICT=4",
        "int number(long)", "int variable(int)", "int global(int)", "int lambda(int,int)", "int apply(int,int)",
        "int let(int,int,int,boolean)", "int primitive(int,int,int)", "int nil()", "int cons(int,int)",
        "int match(int,int,int,int)", "int test(int,int,int)", "int centre(int,int)", "int define(int,int)",
        "int rule(int,int,int,int)", "int pass(int)", "int reset()", "int size(int)", "long core(int)",
        "int parameters(int)", "boolean needs(int,int)", "boolean isAbsent(int,int)",
        "int run(int,int,boolean)", "int goOn(int)", "long print()", "int steps()", "int cellsMade()",
        "int entered(int)", "int live()",
    };

    private static boolean isSeen(Member member) {
        return !Modifier.isPrivate(member.getModifiers()) && !member.isSynthetic();
    }

    private static String text(Method method) {
        StringBuilder text = new StringBuilder(method.getReturnType().getName());
        text.append(' ').append(method.getName()).append('(');
        for (int i = 0; i < method.getParameterCount(); i++) {
            text.append(i == 0 ? "" : ",").append(method.getParameterTypes()[i].getName());
        }
        return text.append(')').toString();
    }

    public static void main(String[] args) throws IllegalAccessException {
        Class<?> type = SpinelessHall.class;
        List<String> got = new ArrayList<>();
        for (Field field : type.getDeclaredFields()) {
            if (isSeen(field)) {
                Check.same(field.getName() + " is public, static and final", field.getModifiers(),
                        Modifier.PUBLIC | Modifier.STATIC | Modifier.FINAL);
                got.add(field.getName() + "=" + field.getInt(null));
            }
        }
        for (Method method : type.getDeclaredMethods()) {
            if (isSeen(method)) {
                Check.same(method.getName() + " is public", method.getModifiers(), Modifier.PUBLIC);
                got.add(text(method));
            }
        }
        for (Constructor<?> constructor : type.getDeclaredConstructors()) {
            Check.same("the constructor", constructor.toString(), "public SpinelessHall()");
        }
        List<String> due = new ArrayList<>(List.of(DUE));
        Collections.sort(got);
        Collections.sort(due);
        Check.same("the face", got, due);
        Check.same("the class", type.getModifiers(), Modifier.PUBLIC | Modifier.FINAL);
        Check.end("FaceTest");
    }
}
