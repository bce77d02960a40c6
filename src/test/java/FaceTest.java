import java.lang.reflect.Constructor;
import java.lang.reflect.Field;
import java.lang.reflect.Method;
import java.lang.reflect.Modifier;
import java.util.TreeSet;

/** The class shows the document's face and nothing more (LANGUAGE.md, rule 1). */
public final class FaceTest {
    private static final String[] FACE = {
        "int sign(int)", "boolean end(int)", "int shore()", "int children()", "int rule()",
        "int cell(int,int)!", "int child(int,int)!", "int set(int,int)", "int sheet(int,int,int,int)",
        "int go(int,int)", "int home(int)", "int spade(int)", "int treat(int)", "int moat(int)",
        "int build(int)", "int tide()", "int pump(int)", "int summer()", "int undo()", "int level(int)",
        "int holds()", "int tides(int)", "int spells()", "int floods(int,int)", "int raise(int,int)",
        "int crew(int,int)", "int post(int,int)", "int moats(int)", "int spades()", "int treats(int)",
        "int work(int)", "int law()", "int seen(int,int)", "int forget()", "int ways()", "int was(int)",
        "int rain(int,int,int)", "int rests(int,int)", "int summers(int,int)", "boolean keep(int)",
        "boolean again(int)", "int count(int)", "long row(int)!",
    };

    public static void main(String[] args) {
        Due due = new Due();
        TreeSet<String> want = new TreeSet<>(java.util.List.of(FACE));
        TreeSet<String> shown = new TreeSet<>();
        TreeSet<String> hidden = new TreeSet<>();
        for (Method m : SandKeepsSea.class.getDeclaredMethods()) {
            if (Modifier.isPrivate(m.getModifiers())) {
                hidden.add(m.getName());
            } else {
                shown.add(written(m));
            }
        }
        due.be("the methods", shown.toString(), want.toString());
        for (String face : FACE) {
            String name = face.substring(face.indexOf(' ') + 1, face.indexOf('('));
            due.be("a private method named " + name, hidden.contains(name), false);
        }
        for (Field f : SandKeepsSea.class.getDeclaredFields()) {
            if (!Modifier.isPrivate(f.getModifiers())) {
                due.be("the field", f.toString(), "public static final int SandKeepsSea.NONE");
            }
        }
        Constructor<?>[] made = SandKeepsSea.class.getDeclaredConstructors();
        due.be("constructors", made.length, 1);
        due.be("the constructor", made[0].toString(), "public SandKeepsSea()");
        due.be("the class", Modifier.toString(SandKeepsSea.class.getModifiers()), "public final");
        due.be("NONE", SandKeepsSea.NONE, -1);
        due.end();
    }

    private static String written(Method m) {
        StringBuilder all = new StringBuilder();
        all.append(m.getReturnType().getName()).append(' ').append(m.getName()).append('(');
        for (int i = 0; i < m.getParameterCount(); i++) {
            all.append(i > 0 ? "," : "").append(m.getParameterTypes()[i].getName());
        }
        all.append(')');
        for (Class<?> c : m.getExceptionTypes()) {
            all.append(c == java.util.NoSuchElementException.class ? "!" : "?");
        }
        return all.toString();
    }
}
