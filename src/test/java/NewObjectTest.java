import java.lang.reflect.Constructor;
import java.lang.reflect.Field;
import java.lang.reflect.Method;
import java.lang.reflect.Modifier;
import java.util.TreeSet;

/** Promise 1, the constants and the public face. */
public final class NewObjectTest {
    private static final String FACE = "[broken(int)int, due(int,int)int, ends(int,int)int, fault(int)int, "
            + "feed(int,int,int,int,int)int, idle(int)int, is(int,int)int, leaves(int,int)int, look(int,int)int, "
            + "lost(int)int, promise(int,int)boolean, steps(int,int,int,int)int, taker(int,int,int)int, "
            + "takers(int)int, text(int,int)int, under(int,int)boolean]";

    public static void main(String[] args) {
        newObject();
        objectsAreApart();
        face();
        Check.finish("NewObjectTest");
    }

    private static void newObject() {
        WaysOut x = new WaysOut();
        for (int r = 0; r < 8; r++) {
            for (int what = 0; what < 4; what++) {
                Check.due("look(" + r + ", " + what + ")", x.look(r, what), 0);
            }
            Check.due("look(" + r + ", 100)", x.look(r, 100), WaysOut.NONE);
            Check.due("takers(" + r + ")", x.takers(r), 0);
            Check.due("taker(" + r + ", 0, 0)", x.taker(r, 0, 0), WaysOut.NONE);
            Check.due("lost(" + r + ")", x.lost(r), 0);
            Check.due("broken(" + r + ")", x.broken(r), 0);
            Check.due("idle(" + r + ")", x.idle(r), 0);
            Check.due("due(" + r + ", 0)", x.due(r, 0), WaysOut.NONE);
            for (int s = 0; s < 4; s++) {
                Check.due("leaves(" + r + ", " + s + ")", x.leaves(r, s), 0);
                Check.due("ends(" + r + ", " + s + ")", x.ends(r, s), 1);
                for (int t = 0; t < 4; t++) {
                    Check.due("steps(" + r + ", " + s + ", 0, " + t + ")", x.steps(r, s, 0, t), s == t ? 0 : -1);
                    Check.due("steps(" + r + ", " + s + ", 1, " + t + ")", x.steps(r, s, 1, t), -1);
                }
            }
        }
        for (int k = 0; k < 6; k++) {
            for (int of = 0; of < 6; of++) {
                Check.due("is(" + k + ", " + of + ")", x.is(k, of), k == of ? 1 : 0);
            }
        }
        Check.due("fault(0)", x.fault(0), 0);
        Check.due("fault(1)", x.fault(1), WaysOut.NONE);
        Check.due("fault(2)", x.fault(2), 0);
        Check.due("NONE", WaysOut.NONE, -1);
    }

    private static void objectsAreApart() {
        WaysOut x = Check.told("!A");
        x.under(1, 0);
        x.promise(0, 3);
        x.feed(1, 2, 3, 4, 5);
        WaysOut y = new WaysOut();
        Check.due("another object's look(0, 0)", y.look(0, 0), 0);
        Check.due("another object's look(0, 3)", y.look(0, 3), 0);
        Check.due("another object's is(1, 0)", y.is(1, 0), 0);
        Check.due("another object's fault(2)", y.fault(2), 0);
        Check.due("another object's leaves(0, 0)", y.leaves(0, 0), 0);
        Check.due("leaves(0, 0)", x.leaves(0, 0), 1);
    }

    private static void face() {
        TreeSet<String> methods = new TreeSet<>();
        for (Method m : WaysOut.class.getDeclaredMethods()) {
            if (!Modifier.isPrivate(m.getModifiers()) && !m.isSynthetic()) {
                StringBuilder name = new StringBuilder(m.getName()).append('(');
                for (Class<?> type : m.getParameterTypes()) {
                    name.append(name.charAt(name.length() - 1) == '(' ? "" : ",").append(type.getName());
                }
                methods.add(name.append(')').append(m.getReturnType().getName()).toString());
                Check.due("public " + m.getName(), m.getModifiers(), Modifier.PUBLIC);
            }
        }
        Check.due("the methods: " + methods, methods.toString().equals(FACE), true);
        for (Field f : WaysOut.class.getDeclaredFields()) {
            Check.due("only NONE is to be seen: " + f, !Modifier.isPrivate(f.getModifiers()), f.getName().equals("NONE"));
        }
        Constructor<?>[] made = WaysOut.class.getDeclaredConstructors();
        Check.due("constructors", made.length, 1);
        Check.due("constructor's parameters", made[0].getParameterCount(), 0);
        Check.due("final", Modifier.isFinal(WaysOut.class.getModifiers()), true);
    }
}
