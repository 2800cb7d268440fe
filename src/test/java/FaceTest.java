import java.lang.reflect.Constructor;
import java.lang.reflect.Field;
import java.lang.reflect.Method;
import java.lang.reflect.Modifier;
import java.util.Set;
import java.util.TreeSet;

/** The face is the document's: these members are public, and no other one can be seen from outside the class. */
public final class FaceTest {
    private static final String[] FACE = {
        "int ground(int, int)", "int ratio(int)", "int slow(int, int)", "int split(int, int)", "int join(int, int)",
        "int at(int, int)", "int time(int, int, int)", "int way(int, int, int, int)", "int ear(int)", "int clock(int, int)",
        "int shake(int, int)", "int put(int, int, int)", "int pick(int, int, int, int, int)", "int tell(int, int, int)",
        "int days(int)", "int of(int, int)", "int misfit(int, int)", "int fit(int)", "int span(int, int)", "int quarrel()",
        "int rank()", "int resolved(int)", "int best(int)", "int heap(int, int, int)", "int move(int)", "int off(int)",
        "int board(int, int, int)", "int write(long, int)", "int erase()", "int fault()", "int run()", "int count(int)",
        "ShakePictures()", "int NONE", "int UNKNOWN", "int OUTSIDE", "int NOT", "int FULL"};

    private static String types(Class<?>[] types) {
        StringBuilder all = new StringBuilder("(");
        for (Class<?> type : types) all.append(all.length() > 1 ? ", " : "").append(type.getSimpleName());
        return all.append(")").toString();
    }

    private static boolean isHidden(int modifiers) {
        return Modifier.isPrivate(modifiers);
    }

    public static void main(String[] args) {
        Class<?> face = ShakePictures.class;
        Set<String> found = new TreeSet<>();
        Set<String> publicNames = new TreeSet<>();
        Set<String> privateNames = new TreeSet<>();
        for (Method m : face.getDeclaredMethods()) {
            if (isHidden(m.getModifiers())) privateNames.add(m.getName());
            else {
                publicNames.add(m.getName());
                found.add((Modifier.isPublic(m.getModifiers()) && !Modifier.isStatic(m.getModifiers()) ? "" : "not public: ")
                    + m.getReturnType().getSimpleName() + " " + m.getName() + types(m.getParameterTypes()));
            }
        }
        for (Constructor<?> c : face.getDeclaredConstructors()) {
            if (!isHidden(c.getModifiers())) found.add(face.getSimpleName() + types(c.getParameterTypes()));
        }
        int constant = Modifier.PUBLIC | Modifier.STATIC | Modifier.FINAL;
        for (Field f : face.getDeclaredFields()) {
            if (!isHidden(f.getModifiers())) {
                found.add((f.getModifiers() == constant ? "" : "no constant: ") + f.getType().getSimpleName() + " " + f.getName());
            }
        }
        for (Class<?> inside : face.getDeclaredClasses()) {
            if (!Modifier.isStatic(inside.getModifiers())) found.add("class inside that is not static: " + inside);
            for (Method m : inside.getDeclaredMethods()) privateNames.add(m.getName());
        }
        privateNames.retainAll(publicNames);
        Set<String> due = new TreeSet<>(Set.of(FACE));
        boolean right = found.equals(due) && privateNames.isEmpty() && Modifier.isFinal(face.getModifiers());
        if (!right) System.out.println("found " + found + "\ndue " + due + "\nnames used twice " + privateNames);
        int[] values = {ShakePictures.NONE, ShakePictures.UNKNOWN, ShakePictures.OUTSIDE, ShakePictures.NOT, ShakePictures.FULL};
        for (int i = 0; i < values.length; i++) right &= values[i] == -1 - i;
        System.out.println("the face is " + (right ? "" : "not ") + "the document's");
        if (!right) System.exit(1);
    }
}
