import java.lang.reflect.Constructor;
import java.lang.reflect.Field;
import java.lang.reflect.Method;
import java.lang.reflect.Modifier;
import java.util.Set;
import java.util.TreeSet;

/** The class has the document's face and nothing else that can be seen. */
public final class FaceTest {
    private static final String[] FACE = {
        "int person(int,boolean)", "boolean field(int,int)", "boolean shed(int,boolean)",
        "int feed(int,int,int,int,int)", "int end(int)", "int text()", "int fault(int)",
        "boolean by(int)", "boolean walk(int,int)", "boolean hat(int,boolean)", "int draw()",
        "int minute(int)", "int played(int)", "int years(int,int)", "int undo()", "int of(int,int)",
        "int ofCell(int,int)", "int is(int)", "int book(int,int)", "int foretold(int,int,int)",
        "int when(int)", "int steps(int,int)", "int way(int,int,int)", "int caught(int,int,int)",
        "int flee(int,int,int)", "int tour(int,int,int)", "int cut(int,int)", "int narrows()",
        "boolean cost(int,int,int)", "int roster(int,int)", "int swap(int,int,int)",
        "int seen(int,int)", "int from(boolean)", "long likely(int,int,boolean)",
        "int days(boolean)", "int said(int,int)", "int whose()", "int thirsty(boolean)",
        "int driest()", "int wettest()", "int near(int)", "int ledger(int)", "int image()",
        "int back()", "int about(int)",
    };

    public static void main(String[] args) {
        Set<String> names = new TreeSet<>();
        Set<String> found = new TreeSet<>();
        for (Method m : RainOnTheOne.class.getDeclaredMethods()) {
            if (!m.isSynthetic() && !Modifier.isPrivate(m.getModifiers())) {
                names.add(m.getName());
                StringBuilder line = new StringBuilder();
                for (Class<?> p : m.getParameterTypes()) {
                    line.append(line.length() == 0 ? "" : ",").append(p.getName());
                }
                found.add(m.getReturnType().getName() + " " + m.getName() + "(" + line + ")");
                Check.due(m.getName() + " is public", Modifier.isPublic(m.getModifiers()), true);
                Check.due(m.getName() + " is static", Modifier.isStatic(m.getModifiers()), false);
            }
        }
        for (String due : FACE) {
            Check.due("there is " + due, found.remove(due), true);
        }
        Check.due("methods beyond the face: " + found, found.size(), 0);
        int mask = Modifier.PUBLIC | Modifier.FINAL;
        Check.due("public final", RainOnTheOne.class.getModifiers() & mask, mask);
        Check.due("constructors", RainOnTheOne.class.getDeclaredConstructors().length, 1);
        for (Constructor<?> c : RainOnTheOne.class.getDeclaredConstructors()) {
            Check.due("constructor's parameters", c.getParameterCount(), 0);
            Check.due("constructor is public", Modifier.isPublic(c.getModifiers()), true);
        }
        for (Field f : RainOnTheOne.class.getDeclaredFields()) {
            boolean seen = !f.isSynthetic() && !Modifier.isPrivate(f.getModifiers());
            Check.due("field " + f.getName() + " is seen", seen, f.getName().equals("NONE"));
        }
        Check.due("NONE", RainOnTheOne.NONE, -1);
        noPublicNameInside(RainOnTheOne.class, names);
        Check.finish();
    }

    private static void noPublicNameInside(Class<?> outer, Set<String> names) {
        for (Method m : outer.getDeclaredMethods()) {
            if (!m.isSynthetic() && !Modifier.isPublic(m.getModifiers())) {
                Check.due(outer + " uses the name " + m.getName(), names.contains(m.getName()), false);
            }
        }
        for (Class<?> inner : outer.getDeclaredClasses()) {
            Check.due(inner + " is static", Modifier.isStatic(inner.getModifiers()), true);
            noPublicNameInside(inner, names);
        }
    }
}
