import java.lang.reflect.Constructor;
import java.lang.reflect.Field;
import java.lang.reflect.Member;
import java.lang.reflect.Method;
import java.lang.reflect.Modifier;
import java.util.ArrayList;
import java.util.Arrays;
import java.util.List;
import java.util.TreeSet;

/** The face is the document's: its methods with their types and exceptions, and nothing else that is not private. */
public final class FaceTest {
    private static final String[] FACE = {
        "int addBlock() IllegalStateException",
        "int addAddress(int) IndexOutOfBoundsException IllegalStateException",
        "int split(int,int) IndexOutOfBoundsException NoSuchElementException IllegalStateException",
        "int join(int,int) IndexOutOfBoundsException IllegalArgumentException",
        "int addRecord(char,int,int,int) IllegalArgumentException IndexOutOfBoundsException IllegalStateException",
        "int blockOf(int) IndexOutOfBoundsException",
        "int setPoints(char,int) IllegalArgumentException",
        "int setBounds(int,int) IllegalArgumentException",
        "int score(int,int) NoSuchElementException IllegalArgumentException",
        "int decide(int,int,boolean) NoSuchElementException IllegalArgumentException UnsupportedOperationException",
        "int takeBack(int,int) NoSuchElementException IllegalStateException",
        "char link(int,int) NoSuchElementException IllegalArgumentException",
        "int openPairs()",
        "boolean isDouble(int) NoSuchElementException",
        "int matchOf(int) NoSuchElementException IllegalStateException",
        "int matches()",
        "int count(int,int) IndexOutOfBoundsException IllegalArgumentException",
        "int countAnew(int,int) IndexOutOfBoundsException IllegalArgumentException",
        "long estimate() ArithmeticException",
        "float doubleShare() ArithmeticException",
        "double meanScore() ArithmeticException",
        "int tell() IllegalStateException UnsupportedOperationException",
        "char stateOf(int) NoSuchElementException",
        "boolean isHidden(int,int,int) NoSuchElementException IndexOutOfBoundsException IllegalArgumentException",
        "int cell(int,int,int) NoSuchElementException IndexOutOfBoundsException IllegalArgumentException"
            + " UnsupportedOperationException",
        "int blockSum(int,int) NoSuchElementException IndexOutOfBoundsException",
        "int groupSum(int,int) NoSuchElementException IllegalArgumentException",
        "int holes(int) NoSuchElementException",
        "boolean isAtRisk(int,int,int) NoSuchElementException IndexOutOfBoundsException IllegalArgumentException"
            + " UnsupportedOperationException",
        "int found(int) NoSuchElementException",
        "int foundByWays(int) NoSuchElementException",
        "int lineLength(int) NoSuchElementException",
        "char lineAt(int,int) NoSuchElementException IndexOutOfBoundsException",
        "boolean isSafe()",
    };

    static String told(Method method) {
        StringBuilder text = new StringBuilder();
        text.append(method.getReturnType().getSimpleName()).append(' ').append(method.getName()).append('(');
        String between = "";
        for (Class<?> type : method.getParameterTypes()) {
            text.append(between).append(type.getSimpleName());
            between = ",";
        }
        text.append(')');
        for (Class<?> type : method.getExceptionTypes()) {
            text.append(' ').append(type.getSimpleName());
        }
        return text.toString();
    }

    public static void main(String[] args) {
        Class<?> face = CensusLoom.class;
        TreeSet<String> shown = new TreeSet<>();
        TreeSet<String> publicNames = new TreeSet<>();
        TreeSet<String> privateNames = new TreeSet<>();
        List<Member> others = new ArrayList<>();
        for (Method method : face.getDeclaredMethods()) {
            if (Modifier.isPublic(method.getModifiers())) {
                shown.add(told(method));
                publicNames.add(method.getName());
            } else {
                privateNames.add(method.getName());
                if (!Modifier.isPrivate(method.getModifiers())) {
                    others.add(method);
                }
            }
        }
        for (Field field : face.getDeclaredFields()) {
            if (!Modifier.isPrivate(field.getModifiers())) {
                others.add(field);
            }
        }
        privateNames.retainAll(publicNames);
        Constructor<?>[] makers = face.getDeclaredConstructors();
        Check.due("the class is public and final",
                () -> Modifier.isPublic(face.getModifiers()) && Modifier.isFinal(face.getModifiers()), true);
        Check.due("the methods", () -> shown, new TreeSet<>(Arrays.asList(FACE)));
        Check.due("private methods with a public one's name", privateNames::toString, "[]");
        Check.due("members that are neither public nor private", others::toString, "[]");
        Check.due("the constructors", () -> makers.length == 1 && makers[0].getParameterCount() == 0
                && Modifier.isPublic(makers[0].getModifiers()), true);
        Check.end();
    }
}
