import java.lang.reflect.Constructor;
import java.lang.reflect.Field;
import java.lang.reflect.Method;
import java.lang.reflect.Modifier;
import java.util.ArrayList;
import java.util.Arrays;
import java.util.List;
import java.util.TreeSet;

/** Whether the class has the document's face and nothing beside it. */
public final class FaceTest {
    private static final String[] FACE = {
        "int category(int) IllegalArgumentException IllegalStateException",
        "int arrow(int,int,int) IndexOutOfBoundsException UnsupportedOperationException IllegalStateException",
        "int compose(int,int,int,int) IndexOutOfBoundsException UnsupportedOperationException",
        "int arrows(int) IndexOutOfBoundsException",
        "int composite(int,int,int) IndexOutOfBoundsException UnsupportedOperationException NoSuchElementException",
        "boolean isWhole(int) IndexOutOfBoundsException",
        "int opposite(int) IndexOutOfBoundsException UnsupportedOperationException IllegalStateException",
        "int times(int,int) IndexOutOfBoundsException UnsupportedOperationException IllegalStateException",
        "int inverses(int) IndexOutOfBoundsException UnsupportedOperationException",
        "int presheaf(int) IndexOutOfBoundsException UnsupportedOperationException IllegalStateException",
        "int element(int,int) IndexOutOfBoundsException IllegalStateException",
        "int act(int,int,int,int) IndexOutOfBoundsException UnsupportedOperationException",
        "int size(int,int) IndexOutOfBoundsException",
        "int image(int,int,int) IndexOutOfBoundsException NoSuchElementException",
        "boolean isPresheaf(int) IndexOutOfBoundsException",
        "int drop() IllegalStateException",
        "int represent(int,int) IndexOutOfBoundsException UnsupportedOperationException IllegalStateException",
        "int truth(int) IndexOutOfBoundsException UnsupportedOperationException IllegalStateException",
        "int combine(int,int,char) IndexOutOfBoundsException IllegalArgumentException"
            + " UnsupportedOperationException IllegalStateException",
        "int maps(int,int) IndexOutOfBoundsException UnsupportedOperationException",
        "int mapped(int,int,int,int) IndexOutOfBoundsException UnsupportedOperationException NoSuchElementException",
        "boolean areAlike(int,int) IndexOutOfBoundsException UnsupportedOperationException",
        "int sections(int) IndexOutOfBoundsException UnsupportedOperationException",
        "int parts(int) IndexOutOfBoundsException UnsupportedOperationException",
        "int join(int,int,int,char) IndexOutOfBoundsException UnsupportedOperationException IllegalArgumentException",
        "int least(int,int) IndexOutOfBoundsException UnsupportedOperationException IllegalArgumentException",
        "int truthOf(int,int,int) IndexOutOfBoundsException UnsupportedOperationException IllegalArgumentException",
        "boolean isBoolean(int) IndexOutOfBoundsException UnsupportedOperationException",
        "int sieves(int,int) IndexOutOfBoundsException UnsupportedOperationException",
        "int cover(int,int,int) IndexOutOfBoundsException UnsupportedOperationException IllegalArgumentException",
        "int uncover(int) IndexOutOfBoundsException",
        "boolean covers(int,int,int) IndexOutOfBoundsException UnsupportedOperationException IllegalArgumentException",
        "int leastCover(int,int) IndexOutOfBoundsException UnsupportedOperationException",
        "boolean isSeparated(int) IndexOutOfBoundsException UnsupportedOperationException",
        "boolean isSheaf(int) IndexOutOfBoundsException UnsupportedOperationException",
        "int plus(int) IndexOutOfBoundsException UnsupportedOperationException IllegalStateException",
        "int functor(int,int) IndexOutOfBoundsException UnsupportedOperationException IllegalStateException",
        "int sendObject(int,int,int) IndexOutOfBoundsException",
        "int sendArrow(int,int,int) IndexOutOfBoundsException UnsupportedOperationException",
        "boolean isFunctor(int) IndexOutOfBoundsException",
        "int move(int,int,char) IndexOutOfBoundsException IllegalArgumentException"
            + " UnsupportedOperationException IllegalStateException",
        "float sheafShare() ArithmeticException",
        "double meanElements() ArithmeticException",
        "long checksum()",
        "boolean isSound()",
    };

    private static int wrong = 0;

    private FaceTest() {
    }

    private static void expect(boolean right, String what) {
        if (!right) {
            wrong++;
            System.out.println("face: " + what);
        }
    }

    private static String told(Method method) {
        StringBuilder text = new StringBuilder();
        text.append(method.getReturnType().getName()).append(' ').append(method.getName()).append('(');
        List<String> types = new ArrayList<>();
        for (Class<?> type : method.getParameterTypes()) {
            types.add(type.getName());
        }
        text.append(String.join(",", types)).append(')');
        for (Class<?> type : method.getExceptionTypes()) {
            text.append(' ').append(type.getSimpleName());
        }
        return text.toString();
    }

    private static void checkMethods() {
        TreeSet<String> want = new TreeSet<>(Arrays.asList(FACE));
        TreeSet<String> names = new TreeSet<>();
        for (String line : FACE) {
            names.add(line.substring(line.indexOf(' ') + 1, line.indexOf('(')));
        }
        for (Method method : PresheafHouse.class.getDeclaredMethods()) {
            if (Modifier.isPrivate(method.getModifiers())) {
                expect(!names.contains(method.getName()), "a private method is named " + method.getName());
            } else {
                expect(method.getModifiers() == Modifier.PUBLIC, "modifiers of " + method.getName());
                expect(want.remove(told(method)), "not in the document: " + told(method));
            }
        }
        expect(want.isEmpty(), "missing: " + want);
    }

    private static void checkRest() {
        int modifiers = PresheafHouse.class.getModifiers();
        expect(Modifier.isPublic(modifiers) && Modifier.isFinal(modifiers), "the class is public and final");
        Constructor<?>[] constructors = PresheafHouse.class.getDeclaredConstructors();
        expect(constructors.length == 1 && constructors[0].getParameterCount() == 0
            && Modifier.isPublic(constructors[0].getModifiers()), "one public constructor");
        for (Field field : PresheafHouse.class.getDeclaredFields()) {
            expect(Modifier.isPrivate(field.getModifiers()), "the field " + field.getName() + " is private");
            expect(!Modifier.isStatic(field.getModifiers()) || Modifier.isFinal(field.getModifiers()),
                "the static field " + field.getName() + " is final");
        }
        for (Class<?> inner : PresheafHouse.class.getDeclaredClasses()) {
            expect(Modifier.isPrivate(inner.getModifiers()) && Modifier.isStatic(inner.getModifiers()),
                "the class " + inner.getSimpleName() + " is private and static");
        }
    }

    public static void main(String[] args) {
        checkMethods();
        checkRest();
        System.out.println(wrong == 0 ? "the face is as due" : wrong + " things of the face are not as due");
        if (wrong != 0) {
            System.exit(1);
        }
    }
}
