import java.lang.reflect.Constructor;
import java.lang.reflect.Field;
import java.lang.reflect.Method;
import java.lang.reflect.Modifier;
import java.util.ArrayList;
import java.util.Arrays;
import java.util.List;
import java.util.Set;
import java.util.TreeSet;
import java.util.stream.Collectors;

/** The class has just the document's face, and keeps to the rules that can be seen from outside. */
public final class FaceTest {

    private static final String[] FACE = {
        "boolean isComposed()",
        "boolean isSettled() IllegalStateException",
        "boolean setByPage(boolean)",
        "int broken() IllegalStateException",
        "int clear()",
        "int compose(boolean) IllegalStateException",
        "int cost(int) IndexOutOfBoundsException IllegalStateException",
        "int costByAll(int) IndexOutOfBoundsException IllegalStateException",
        "int costOfLines(int,int) IndexOutOfBoundsException IllegalStateException",
        "int head(int,int,int) IndexOutOfBoundsException IllegalArgumentException"
            + " IllegalStateException",
        "int headOf(int,boolean) IndexOutOfBoundsException IllegalStateException",
        "int indexLine(int) IllegalArgumentException IllegalStateException",
        "int indexLines() IllegalStateException",
        "int items(int) IndexOutOfBoundsException",
        "int kindOf(int) IndexOutOfBoundsException IllegalStateException",
        "int lines(int,int) IndexOutOfBoundsException IllegalStateException",
        "int marginOf(int,int,int) IndexOutOfBoundsException IllegalStateException",
        "int noteOf(int,int,int) IndexOutOfBoundsException IllegalStateException",
        "int onPage(int,int) IndexOutOfBoundsException IllegalArgumentException"
            + " IllegalStateException",
        "int pageOf(int,boolean) IndexOutOfBoundsException IllegalStateException",
        "int pageOfRow(int,int) IndexOutOfBoundsException IllegalStateException",
        "int pages() IllegalStateException",
        "int paragraph(int) IndexOutOfBoundsException IllegalStateException",
        "int print() IllegalStateException",
        "int range(int,int,boolean) IndexOutOfBoundsException IllegalArgumentException"
            + " IllegalStateException",
        "int ranges(int) IndexOutOfBoundsException IllegalStateException",
        "int refer(int) IllegalArgumentException IllegalStateException",
        "int replace(int,int) IndexOutOfBoundsException IllegalStateException",
        "int rows(int) IndexOutOfBoundsException IllegalStateException",
        "int seeAlso(int,int) IndexOutOfBoundsException IllegalArgumentException",
        "int setMeasures(int,int) IllegalArgumentException",
        "int sheets() IllegalStateException",
        "int textOf(int,int,int) IndexOutOfBoundsException IllegalStateException",
        "int untouched() IllegalStateException",
        "int widthOf(int,int,int) IndexOutOfBoundsException IllegalStateException",
        "int word(int,int,int) IllegalArgumentException IllegalStateException",
        "int words(int,int) IndexOutOfBoundsException",
        "int wordsTo(int,int,int) IndexOutOfBoundsException IllegalStateException",
    };

    private static String names(Class<?>[] types, String between) {
        return Arrays.stream(types).map(Class::getSimpleName).collect(Collectors.joining(between));
    }

    private static List<String> face() {
        List<String> face = new ArrayList<>();
        for (Method method : Facingleaf.class.getDeclaredMethods()) {
            if (!Modifier.isPrivate(method.getModifiers())) {
                String thrown = names(method.getExceptionTypes(), " ");
                face.add((method.getReturnType().getSimpleName() + " " + method.getName() + "("
                    + names(method.getParameterTypes(), ",") + ") " + thrown).trim());
            }
        }
        face.sort(null);
        return face;
    }

    private static List<Class<?>> classes() {
        List<Class<?>> all = new ArrayList<>(List.of(Facingleaf.class));
        for (int k = 0; k < all.size(); k++) {
            all.addAll(List.of(all.get(k).getDeclaredClasses()));
        }
        return all;
    }

    private static void inside(Due due) {
        Set<String> open = new TreeSet<>();
        for (String call : FACE) {
            open.add(call.substring(call.indexOf(' ') + 1, call.indexOf('(')));
        }
        List<Class<?>> all = classes();
        due.is("at most some twelve classes", all.size() <= 12, true);
        for (Class<?> one : all) {
            int fields = 0;
            for (Field field : one.getDeclaredFields()) {
                boolean isStatic = Modifier.isStatic(field.getModifiers());
                fields += isStatic ? 0 : 1;
                due.is(one + " " + field.getName() + " is private",
                    Modifier.isPrivate(field.getModifiers()), true);
                due.is(one + " " + field.getName() + " is final, if it is static",
                    isStatic && !Modifier.isFinal(field.getModifiers()), false);
            }
            due.is("the fields of " + one + " are at most some twenty", fields <= 20, true);
            for (Method method : one.getDeclaredMethods()) {
                due.is(method + " has at most seven parameters",
                    method.getParameterCount() <= 7, true);
                due.is(method + " has no name of the face", one != Facingleaf.class
                    && open.contains(method.getName()) || one == Facingleaf.class
                    && Modifier.isPrivate(method.getModifiers())
                    && open.contains(method.getName()), false);
            }
        }
    }

    public static void main(String[] args) {
        Due due = new Due("FaceTest");
        due.is("the methods", face(), List.of(FACE));
        Constructor<?>[] made = Facingleaf.class.getDeclaredConstructors();
        due.is("how many constructors", made.length, 1);
        due.is("its parameters", made[0].getParameterCount(), 0);
        due.is("it is public", Modifier.isPublic(made[0].getModifiers()), true);
        due.is("the class is public and final",
            Modifier.isPublic(Facingleaf.class.getModifiers())
            && Modifier.isFinal(Facingleaf.class.getModifiers()), true);
        due.is("it has no package", Facingleaf.class.getPackageName(), "");
        inside(due);
        due.end();
    }
}
