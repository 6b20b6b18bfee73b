import java.lang.reflect.Constructor;
import java.lang.reflect.Field;
import java.lang.reflect.Method;
import java.lang.reflect.Modifier;
import java.util.Set;
import java.util.TreeSet;

/** The face: the constants, the constructor and the methods of the document, and no more. */
public final class FaceTest {
    private static final String[] FACE = {
        "int type(long, int)", "int clear()", "int rules()", "int rule(int)", "int row(int, int, int, int)",
        "int deaf(int)", "int out(int, int, int)", "int hush()", "int pieces(int)", "int piece(int, int)",
        "int of(int)", "int like(int, int)", "int heap(int, int)", "int worth(int)", "int near(int)",
        "int sure(int, int)", "int middle(int, int)", "int twice(int, int)", "int keep(int, int)", "int forget(int)",
        "int back(int, int)", "int odds(int, int, int)", "int show()", "int otherwise()", "int word(int, int)",
        "int hung(int, int)", "int truth(int, int, int)", "int errors(int)", "int weight(int, int)", "int count(int)",
        "long trace()",
    };
    private static final String[] CONSTANTS = {"BAD", "STATE", "FULL", "NONE", "NO"};

    public static void main(String[] args) {
        Check.due("BAD", VoiceHeaps.BAD, -1);
        Check.due("STATE", VoiceHeaps.STATE, -2);
        Check.due("FULL", VoiceHeaps.FULL, -3);
        Check.due("NONE", VoiceHeaps.NONE, -9);
        Check.due("NO", VoiceHeaps.NO, -1000000);
        Check.holds("the class is public and final", Modifier.toString(VoiceHeaps.class.getModifiers()).equals("public final"));
        Check.holds("the methods", methods().equals(new TreeSet<>(Set.of(FACE))));
        Check.holds("the constants", constants().equals(new TreeSet<>(Set.of(CONSTANTS))));
        constructors();
        nested();
        Check.end();
    }

    private static Set<String> methods() {
        Set<String> names = new TreeSet<>();
        for (Method m : VoiceHeaps.class.getDeclaredMethods()) {
            if (!Modifier.isPrivate(m.getModifiers())) {
                StringBuilder name = new StringBuilder(m.getReturnType().getName() + " " + m.getName() + "(");
                for (Class<?> type : m.getParameterTypes()) {
                    name.append(name.charAt(name.length() - 1) == '(' ? "" : ", ").append(type.getName());
                }
                names.add(name.append(")").toString());
                Check.holds(name + " is public alone", m.getModifiers() == Modifier.PUBLIC);
            }
        }
        return names;
    }

    private static Set<String> constants() {
        Set<String> names = new TreeSet<>();
        for (Field f : VoiceHeaps.class.getDeclaredFields()) {
            if (!Modifier.isPrivate(f.getModifiers())) {
                names.add(f.getName());
                Check.holds(f.getName() + " is a public constant",
                        f.getType() == int.class && Modifier.toString(f.getModifiers()).equals("public static final"));
            }
            Check.holds(f.getName() + ": what is static is final",
                    !Modifier.isStatic(f.getModifiers()) || Modifier.isFinal(f.getModifiers()));
        }
        return names;
    }

    private static void constructors() {
        Constructor<?>[] all = VoiceHeaps.class.getDeclaredConstructors();
        Check.due("constructors", all.length, 1);
        Check.holds("the constructor is public and takes nothing",
                all[0].getParameterCount() == 0 && Modifier.isPublic(all[0].getModifiers()));
    }

    private static void nested() {
        Class<?>[] inside = VoiceHeaps.class.getDeclaredClasses();
        Check.holds("some twelve classes", inside.length < 13);
        for (Class<?> c : inside) {
            int modifiers = c.getModifiers();
            Check.holds(c.getName() + " is static and not public",
                    Modifier.isStatic(modifiers) && !Modifier.isPublic(modifiers) && !Modifier.isProtected(modifiers));
            Check.holds(c.getName() + " has some twenty fields", c.getDeclaredFields().length <= 20);
            for (Method m : c.getDeclaredMethods()) {
                for (String face : FACE) {
                    String name = face.substring(face.indexOf(' ') + 1, face.indexOf('('));
                    Check.holds(c.getName() + ": " + name + " is the face's name", !m.getName().equals(name));
                }
            }
        }
    }
}
