import java.lang.reflect.Constructor;
import java.lang.reflect.Field;
import java.lang.reflect.Method;
import java.lang.reflect.Modifier;
import java.util.Arrays;
import java.util.Set;
import java.util.TreeSet;

/** The class shows the document's face and nothing else. */
public final class FaceTest {
    private static final String[] FACE = {
        "int feed(int,int,int,int,int)", "int end(int)", "int tell()", "int settle(int,int)",
        "int lies(int)", "int plan(int,int,int,int,int)", "int drop(int,int)",
        "int omit(int,int,int)", "int late(int,int,int,int)", "int attack()", "int trade(int,int)",
        "int undo()", "int keep(int)", "int back(int)", "int set(int,int)", "int decision(int)",
        "int extracted(int,int,int)", "int letter(int,int)", "int mark(int,int)",
        "long packed(int)", "int open(long,int)", "int sent(int)", "int forged(int)",
        "int known(int,int)", "int alike()", "int valid()", "int sound()", "int parted()",
        "int slack(int,int,int)", "int crucial(int,int)", "int least()", "int holders(int,int)",
        "int path(int,int,int)", "int caught(int)", "int bits(int)", "int load(int,int)",
        "int calm(int)", "int heal()", "int count(int)", "int planned(int,int)",
        "int fault(int,int,int)"
    };

    public static void main(String[] args) {
        Check check = new Check("FaceTest");
        Class<?> face = MarkedChains.class;
        check.holds("public", Modifier.isPublic(face.getModifiers()));
        check.holds("final", Modifier.isFinal(face.getModifiers()));
        check.due("NONE", MarkedChains.NONE, -1);
        Set<String> due = new TreeSet<>(Arrays.asList(FACE));
        Set<String> names = new TreeSet<>();
        Set<String> shown = new TreeSet<>();
        for (Method m : face.getDeclaredMethods()) {
            if (!Modifier.isPrivate(m.getModifiers())) {
                shown.add(signature(m));
                names.add(m.getName());
                check.holds(m.getName() + " is public, not static",
                        Modifier.isPublic(m.getModifiers()) && !Modifier.isStatic(m.getModifiers()));
            }
        }
        check.holds("the methods " + shown, shown.equals(due));
        for (Method m : face.getDeclaredMethods()) {
            if (Modifier.isPrivate(m.getModifiers())) {
                check.holds(m.getName() + " is no public name", !names.contains(m.getName()));
            }
        }
        for (Field f : face.getDeclaredFields()) {
            boolean isNone = f.getName().equals("NONE") && Modifier.isPublic(f.getModifiers())
                    && Modifier.isStatic(f.getModifiers()) && Modifier.isFinal(f.getModifiers());
            check.holds("field " + f.getName(), isNone || Modifier.isPrivate(f.getModifiers()));
        }
        Constructor<?>[] all = face.getDeclaredConstructors();
        check.due("constructors", all.length, 1);
        check.holds("one without arguments, public",
                all[0].getParameterCount() == 0 && Modifier.isPublic(all[0].getModifiers()));
        for (Class<?> inside : face.getDeclaredClasses()) {
            check.holds(inside + " is static", Modifier.isStatic(inside.getModifiers()));
            for (Method m : inside.getDeclaredMethods()) {
                check.holds(m + " has no name of the face", !names.contains(m.getName()));
            }
        }
        check.finish();
    }

    private static String signature(Method m) {
        StringBuilder text = new StringBuilder(m.getReturnType().getName());
        text.append(' ').append(m.getName()).append('(');
        Class<?>[] types = m.getParameterTypes();
        for (int i = 0; i < types.length; i++) {
            text.append(i == 0 ? "" : ",").append(types[i].getName());
        }
        return text.append(')').toString();
    }
}
