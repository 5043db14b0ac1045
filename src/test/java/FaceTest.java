import java.lang.reflect.Field;
import java.lang.reflect.Member;
import java.lang.reflect.Method;
import java.lang.reflect.Modifier;
import java.util.ArrayList;
import java.util.Arrays;
import java.util.Collections;
import java.util.List;
import java.util.stream.Collectors;

/** The class shows the document's face: all of it, and no other member that is not private. */
public final class FaceTest {
    private static final String FACE = String.join("\n",
            "boolean isKnocked()",
            "boolean isOver()",
            "int least()",
            "int missed()",
            "int most()",
            "int paid()",
            "int price(int) throws IndexOutOfBoundsException",
            "int states()",
            "int takeBack() throws IllegalStateException",
            "int tell(boolean) throws IllegalStateException",
            "int told()",
            "int worst()",
            "long divisor()",
            "long endsIn(int) throws IllegalArgumentException",
            "long knocks()",
            "long worth()",
            "long worthByPaths()",
            "void setAsset(int,int,int,int) throws IndexOutOfBoundsException,IllegalArgumentException",
            "void setKind(boolean,boolean)",
            "void setMoves(boolean,int) throws IllegalArgumentException",
            "void setNote(int,int,int,int,int) throws IllegalArgumentException");

    public static void main(String[] args) throws ReflectiveOperationException {
        Check check = new Check("FaceTest");
        Class<Barrierbook> face = Barrierbook.class;
        check.due("the class's modifiers", face.getModifiers(), Modifier.PUBLIC | Modifier.FINAL);
        check.due("the methods", String.join("\n", methods(face)), FACE);
        check.due("the constructors", Arrays.toString(face.getDeclaredConstructors()),
                "[public Barrierbook()]");
        check.due("the constants", fields(face), "public static final int NONE");
        check.due("NONE", face.getField("NONE").getInt(null), -1);
        for (Class<?> inside : face.getDeclaredClasses()) {
            check.due(inside + " is public or protected",
                    inside.getModifiers() & (Modifier.PUBLIC | Modifier.PROTECTED), 0);
        }
        check.finish();
    }

    private static List<String> methods(Class<?> face) {
        List<String> told = new ArrayList<>();
        for (Method method : face.getDeclaredMethods()) {
            if (isShown(method)) {
                told.add(signature(method));
            }
        }
        Collections.sort(told);
        return told;
    }

    private static String signature(Method method) {
        String thrown = names(method.getExceptionTypes());
        return method.getReturnType().getSimpleName() + " " + method.getName()
                + "(" + names(method.getParameterTypes()) + ")"
                + (thrown.isEmpty() ? "" : " throws " + thrown);
    }

    private static String names(Class<?>[] types) {
        return Arrays.stream(types).map(Class::getSimpleName).collect(Collectors.joining(","));
    }

    private static String fields(Class<?> face) {
        List<String> told = new ArrayList<>();
        for (Field field : face.getDeclaredFields()) {
            if (isShown(field)) {
                told.add(Modifier.toString(field.getModifiers()) + " "
                        + field.getType().getSimpleName() + " " + field.getName());
            }
        }
        return String.join("\n", told);
    }

    private static boolean isShown(Member member) {
        return !Modifier.isPrivate(member.getModifiers()) && !member.isSynthetic();
    }
}
