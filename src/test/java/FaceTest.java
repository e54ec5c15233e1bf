import java.lang.reflect.Constructor;
import java.lang.reflect.Field;
import java.lang.reflect.Method;
import java.lang.reflect.Modifier;
import java.util.Arrays;
import java.util.Set;
import java.util.TreeSet;

/** The class has the document's face and no other member that can be seen from outside. */
public final class FaceTest {
    private static final String[] FACE = {
        "boolean person 3", "int feed 5", "int law 1", "int burials 1", "int wishes 1", "int nights 1",
        "int tried 2", "int personIs 2", "int talk 2", "int yardTalk 0", "int best 2", "int move 1",
        "int change 1", "int hold 1", "int row 2", "int couples 2", "int heard 2", "int circles 1",
        "int from 2", "int thread 2", "int good 2", "int silent 1", "int visit 1", "int visited 0",
        "int alike 2", "boolean seed 1", "int keep 0", "boolean undo 0", "int check 1", "int count 1",
    };

    public static void main(String[] args) {
        Checks checks = new Checks();
        Class<?> face = TalkingPlots.class;
        checks.due("final and public", face.getModifiers(), Modifier.FINAL | Modifier.PUBLIC);

        Set<String> seen = new TreeSet<>();
        Set<String> names = new TreeSet<>();
        for (Method m : face.getDeclaredMethods()) {
            if (!Modifier.isPrivate(m.getModifiers())) {
                seen.add(m.getReturnType() + " " + m.getName() + " " + m.getParameterCount());
                names.add(m.getName());
                checks.due(m.getName() + " is public alone", m.getModifiers(), Modifier.PUBLIC);
            }
        }
        checks.due("the methods are " + seen, seen.equals(new TreeSet<>(Arrays.asList(FACE))), true);

        int fields = 0;
        for (Field f : face.getDeclaredFields()) {
            if (!Modifier.isPrivate(f.getModifiers())) {
                fields++;
                checks.due("the field is " + f.getName(), f.getName().equals("NONE"), true);
            }
        }
        checks.due("fields that can be seen", fields, 1);

        Constructor<?>[] made = face.getDeclaredConstructors();
        checks.due("constructors", made.length, 1);
        checks.due("its parameters", made[0].getParameterCount(), 0);
        checks.due("it is public", made[0].getModifiers(), Modifier.PUBLIC);

        inside(checks, face, names);
        checks.end();
    }

    private static void inside(Checks checks, Class<?> face, Set<String> names) {
        int classes = 1;
        for (Class<?> c : face.getDeclaredClasses()) {
            classes++;
            checks.due(c.getName() + " is static", Modifier.isStatic(c.getModifiers()), true);
            for (Method m : c.getDeclaredMethods()) {
                checks.due(c.getName() + "." + m.getName() + " has a public one's name", names.contains(m.getName()), false);
                checks.due(c.getName() + "." + m.getName() + " takes seven at most", m.getParameterCount() <= 7, true);
            }
            int fields = 0;
            for (Field f : c.getDeclaredFields()) {
                fields += Modifier.isStatic(f.getModifiers()) ? 0 : 1;
            }
            checks.due(c.getName() + " has twenty fields at most", fields <= 20, true);
        }
        checks.due("twelve classes at most", classes <= 12, true);
    }
}
