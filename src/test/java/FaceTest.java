import java.io.IOException;
import java.lang.reflect.Constructor;
import java.lang.reflect.Field;
import java.lang.reflect.Method;
import java.lang.reflect.Modifier;
import java.nio.file.Files;
import java.nio.file.Path;
import java.util.Set;
import java.util.TreeSet;

/** The public face, member by member, and those rules of LANGUAGE.md that can be seen from outside or in the text. */
public final class FaceTest {
    private static final String[] METHODS = {
        "int point(int,int)", "int move(int,int,int)", "int tick(int)", "int at(int,int)", "int object(int,int,int,int)",
        "int corner(int)", "int area()", "int style(int,int)", "int hide(int,boolean)", "int fallen(int)", "long measure(int)",
        "int window(int,int,int,int)", "int fit()", "int side(int)", "int sheet(int,int,int)", "int grid(int)", "int hatch(int)",
        "int scale(boolean)", "float single(int,int)", "int solid(int,int)", "int vertex(int,int,int,int)", "int face(int,int,int)",
        "int view(int)", "int edge(int,int,int)", "int label(int,int)", "int draw()", "int mark(int,int)", "int placed(int)",
        "int octet(int)", "int digest()", "int count(int)", "int code()", "int group(int,int,int)", "int put(int,int,int)",
        "int member(int,int)", "int paint(int,int)", "long reach(int)"};

    public static void main(String[] args) throws IOException {
        Set<String> due = new TreeSet<>(Set.of(METHODS));
        Set<String> names = new TreeSet<>();
        for (String m : METHODS) {
            names.add(m.substring(m.indexOf(' ') + 1, m.indexOf('(')));
        }
        Set<String> found = new TreeSet<>();
        for (Method m : DrawLabels.class.getDeclaredMethods()) {
            if (!Modifier.isPrivate(m.getModifiers())) {
                found.add(signature(m));
            } else {
                Due.due("a private method with a public name: " + m.getName(), names.contains(m.getName()) ? 1 : 0, 0);
            }
        }
        Due.due("methods", found.toString(), due.toString());
        constants();
        for (Constructor<?> c : DrawLabels.class.getDeclaredConstructors()) {
            Due.due("constructor", c.toString(), "public DrawLabels()");
        }
        int outer = DrawLabels.class.getModifiers();
        Due.due("public final class", Modifier.toString(outer), "public final");
        Class<?>[] inside = DrawLabels.class.getDeclaredClasses();
        Due.due("more than twelve classes", inside.length + 1 > 12 ? 1 : 0, 0);
        for (Class<?> c : inside) {
            inside(c, names);
        }
        text();
        Due.end();
    }

    private static String signature(Method m) {
        StringBuilder all = new StringBuilder(m.getReturnType().getName()).append(' ').append(m.getName()).append('(');
        for (Class<?> p : m.getParameterTypes()) {
            all.append(all.charAt(all.length() - 1) == '(' ? "" : ",").append(p.getName());
        }
        return all.append(')').toString();
    }

    private static void constants() {
        Due.due("NONE", DrawLabels.NONE, -1);
        Due.due("UNKNOWN", DrawLabels.UNKNOWN, -100001);
        Due.due("OUTSIDE", DrawLabels.OUTSIDE, -100002);
        Due.due("NOT", DrawLabels.NOT, -100003);
        Due.due("FULL", DrawLabels.FULL, -100004);
        Set<String> found = new TreeSet<>();
        for (Field f : DrawLabels.class.getDeclaredFields()) {
            if (!Modifier.isPrivate(f.getModifiers())) {
                found.add(Modifier.toString(f.getModifiers()) + " " + f.getType() + " " + f.getName());
            }
        }
        String head = "public static final int ";
        Due.due("constants", found.toString(), new TreeSet<>(Set.of(head + "NONE", head + "UNKNOWN", head + "OUTSIDE", head + "NOT", head + "FULL")).toString());
    }

    private static void inside(Class<?> c, Set<String> names) {
        Due.due(c + " is private and static", Modifier.toString(c.getModifiers()), "private static final");
        int fields = 0;
        for (Field f : c.getDeclaredFields()) {
            boolean isStatic = Modifier.isStatic(f.getModifiers());
            fields += isStatic ? 0 : 1;
            Due.due("static state " + f, isStatic && !Modifier.isFinal(f.getModifiers()) ? 1 : 0, 0);
        }
        Due.due(c + " has above twenty fields", fields > 20 ? 1 : 0, 0);
        for (Method m : c.getDeclaredMethods()) {
            Due.due(m + " bears a public name", names.contains(m.getName()) ? 1 : 0, 0);
            Due.due(m + " has above seven parameters", m.getParameterCount() > 7 ? 1 : 0, 0);
        }
    }

    private static void text() throws IOException {
        String source = Files.readString(Path.of("src/main/java/DrawLabels.java"));
        String[] never = {"import ", "package ", "Exact(", "->", "::", "finally", "synchronized", "assert ", "throw ", "catch ",
            "toString", "hashCode", ".equals", "System.nano", "System.current", "Random"};
        for (String word : never) {
            Due.due("the source has '" + word + "'", source.contains(word) ? 1 : 0, 0);
        }
        for (int k = 0; k < source.length(); k++) {
            if (source.charAt(k) > 127) {
                Due.due("a sign above 127 at " + k, 1, 0);
            }
        }
    }
}
