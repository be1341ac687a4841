import java.lang.reflect.Constructor;
import java.lang.reflect.Field;
import java.lang.reflect.Member;
import java.lang.reflect.Method;
import java.lang.reflect.Modifier;
import java.util.ArrayList;
import java.util.Collections;
import java.util.List;

/** The public face: its constants, its constructor, its methods, and nothing else. */
public final class FaceTest {
    private static final String[] CONSTANTS = {
        "NONE=-1", "NUMBER=0", "FUNCTION=1", "LIST=2", "STUCK=3", "LOOP=4", "TOO_FAR=5",
        "SIMPLIFY=0", "FLOAT_IN=1", "FLOAT_OUT=2", "ARITY=3", "STRICT=4",
    };
    // Index, Argument and State stand for IndexOutOfBoundsException and Illegal..Exception; their order tells which
    // one is thrown if several apply.
    private static final String[] METHODS = {
        "int number(long) throws State",
        "int variable(int) throws Argument State",
        "int global(int) throws Argument State",
        "int lambda(int,int) throws Index Argument State",
        "int apply(int,int) throws Index State",
        "int let(int,int,int,boolean) throws Index Argument State",
        "int primitive(int,int,int) throws Index Argument State",
        "int nil() throws State",
        "int cons(int,int) throws Index State",
        "int match(int,int,int,int) throws Index Argument State",
        "int test(int,int,int) throws Index State",
        "int centre(int,int) throws Index Argument State",
        "int define(int,int) throws Index Argument State",
        "int rule(int,int,int,int) throws Argument State",
        "int pass(int) throws Argument State",
        "int reset()",
        "int size(int) throws Index",
        "long core(int) throws Index",
        "int parameters(int) throws Index",
        "boolean needs(int,int) throws Index",
        "boolean isAbsent(int,int) throws Index",
        "int run(int,int,boolean) throws Index Argument",
        "int goOn(int) throws Argument State",
        "long print() throws State",
        "int steps()",
        "int cellsMade()",
        "int entered(int) throws Argument",
        "int live() throws State",
    };

    private static boolean isSeen(Member member) {
        return !Modifier.isPrivate(member.getModifiers()) && !member.isSynthetic();
    }

    private static String shortName(String exception) {
        return exception.replaceAll("^Illegal|OutOfBounds|Exception$", "");
    }

    private static String text(Method method) {
        StringBuilder text = new StringBuilder(method.getReturnType().getName());
        text.append(' ').append(method.getName()).append('(');
        for (int i = 0; i < method.getParameterCount(); i++) {
            text.append(i == 0 ? "" : ",").append(method.getParameterTypes()[i].getName());
        }
        text.append(')');
        String behind = " throws ";
        for (Class<?> thrown : method.getExceptionTypes()) {
            text.append(behind).append(shortName(thrown.getSimpleName()));
            behind = " ";
        }
        return text.toString();
    }

    public static void main(String[] args) throws IllegalAccessException {
        Class<?> type = SpinelessHall.class;
        List<String> got = new ArrayList<>();
        for (Field field : type.getDeclaredFields()) {
            if (isSeen(field)) {
                Check.same(field.getName() + " is public, static and final", field.getModifiers(),
                        Modifier.PUBLIC | Modifier.STATIC | Modifier.FINAL);
                got.add(field.getName() + "=" + field.getInt(null));
            }
        }
        for (Method method : type.getDeclaredMethods()) {
            if (isSeen(method)) {
                Check.same(method.getName() + " is public", method.getModifiers(), Modifier.PUBLIC);
                got.add(text(method));
            }
        }
        for (Constructor<?> constructor : type.getDeclaredConstructors()) {
            Check.same("the constructor", constructor.toString(), "public SpinelessHall()");
        }
        List<String> due = new ArrayList<>(List.of(CONSTANTS));
        due.addAll(List.of(METHODS));
        Collections.sort(got);
        Collections.sort(due);
        Check.same("the face", got, due);
        Check.same("the class", type.getModifiers(), Modifier.PUBLIC | Modifier.FINAL);
        Check.end("FaceTest");
    }
}
