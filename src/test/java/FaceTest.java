import java.lang.reflect.Constructor;
import java.lang.reflect.Field;
import java.lang.reflect.Method;
import java.lang.reflect.Modifier;
import java.util.Set;
import java.util.TreeSet;

/** The public face is the document's, no more and no less. */
public final class FaceTest {
    private static final Check CHECK = new Check();
    private static final String[] METHODS = {
        "int top(int)", "int kind(int)", "int link(int,int,int,int)", "int pair(int,int,int,int)",
        "int thing(int,int,int)", "int room(int)", "int block(int,int)", "int needs(int,int,boolean)",
        "int put(int,int,int)", "int clear()", "int plans(int)", "int isPlan(int)", "int bestAt(int,int)",
        "int pieces()", "int piece(int,int)", "int change(int)", "int highest(int)", "int span(int,int)",
        "int tolerance(int,int,int)", "int ratio()", "int rue()", "int grown()", "int pace()", "long part(int)",
        "int count(int)", "long digest()"};

    private static String text(Method m) {
        StringBuilder s = new StringBuilder(m.getReturnType().getName()).append(' ').append(m.getName()).append('(');
        for (int i = 0; i < m.getParameterCount(); i++) {
            s.append(i == 0 ? "" : ",").append(m.getParameterTypes()[i].getName());
        }
        return s.append(')').toString();
    }

    private static void methods() {
        Set<String> want = new TreeSet<>(Set.of(METHODS));
        Set<String> names = new TreeSet<>();
        for (String w : want) names.add(w.substring(w.indexOf(' ') + 1, w.indexOf('(')));
        Set<String> got = new TreeSet<>();
        for (Method m : PriceRise.class.getDeclaredMethods()) {
            if (m.isSynthetic()) continue;
            if (Modifier.isPrivate(m.getModifiers())) CHECK.due(m + " bears a public name", names.contains(m.getName()) ? 1 : 0, 0);
            else got.add((Modifier.isStatic(m.getModifiers()) ? "static " : "") + text(m));
        }
        CHECK.due("methods " + got, got.equals(want) ? 1 : 0, 1);
        for (Class<?> inside : PriceRise.class.getDeclaredClasses()) {
            for (Method m : inside.getDeclaredMethods()) {
                CHECK.due(m + " bears a public name", names.contains(m.getName()) ? 1 : 0, 0);
            }
        }
    }

    private static void fields() throws IllegalAccessException {
        Set<String> got = new TreeSet<>();
        for (Field f : PriceRise.class.getDeclaredFields()) {
            if (f.isSynthetic() || Modifier.isPrivate(f.getModifiers())) continue;
            got.add(Modifier.toString(f.getModifiers()) + " " + f.getType() + " " + f.getName() + " = " + f.get(null));
        }
        Set<String> want = new TreeSet<>();
        for (String s : new String[] {"NONE = -1", "BAD = -2", "NO = -3", "FULL = -4"}) want.add("public static final int " + s);
        CHECK.due("constants " + got, got.equals(want) ? 1 : 0, 1);
    }

    private static void rest() {
        CHECK.due("public and final", PriceRise.class.getModifiers() & (Modifier.PUBLIC | Modifier.FINAL),
            Modifier.PUBLIC | Modifier.FINAL);
        Constructor<?>[] all = PriceRise.class.getDeclaredConstructors();
        CHECK.due("one constructor", all.length, 1);
        CHECK.due("it takes nothing", all[0].getParameterCount(), 0);
        CHECK.due("it is public", all[0].getModifiers() & Modifier.PUBLIC, Modifier.PUBLIC);
        for (Class<?> inside : PriceRise.class.getDeclaredClasses()) {
            CHECK.due(inside + " is static", Modifier.isStatic(inside.getModifiers()) ? 1 : 0, 1);
            int open = inside.getModifiers() & (Modifier.PUBLIC | Modifier.PROTECTED);
            CHECK.due(inside + " is not public or protected", open, 0);
        }
        CHECK.due("at most twelve classes", PriceRise.class.getDeclaredClasses().length <= 12 ? 1 : 0, 1);
    }

    public static void main(String[] args) throws IllegalAccessException {
        methods();
        fields();
        rest();
        CHECK.end();
    }
}
