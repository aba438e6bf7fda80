import java.lang.reflect.Constructor;
import java.lang.reflect.Field;
import java.lang.reflect.Method;
import java.lang.reflect.Modifier;
import java.util.Set;
import java.util.TreeSet;

/** The public face, and promise 1: a new object. */
public final class FaceTest {
    private static final String[] FACE = {
        "int bead(int)", "boolean beads(int)", "int count(int)", "int least()", "int cut(int)", "int rows()",
        "int halves(int)", "boolean net(int)", "boolean mark(int,int,int)", "int marked(int,int)", "int all()",
        "int doors()", "int doorsAll()", "int walk(int)", "int ended(int)", "boolean people(int)",
        "boolean room(int,int,int)", "boolean rent(int)", "int best()", "int has(int)", "long price(int)",
        "long grudge(int,int)", "boolean turned(int,int)", "int check()", "boolean line(int)",
        "boolean stretch(int,int,int)", "int who(int)", "long place(int,int)", "long worth(int,int,int)",
        "int envies(int)"
    };

    public static void main(String[] args) {
        face();
        newObject();
        objectsAreApart();
        Due.end();
    }

    private static void face() {
        Set<String> want = new TreeSet<>(Set.of(FACE));
        Set<String> got = new TreeSet<>();
        Set<String> names = new TreeSet<>();
        for (Method method : ShareBench.class.getDeclaredMethods()) {
            if (!Modifier.isPrivate(method.getModifiers())) {
                got.add(told(method));
                names.add(method.getName());
                Due.is(method + " is public and nothing else", method.getModifiers(), Modifier.PUBLIC);
                Due.is(method + " says that it throws", method.getExceptionTypes().length, 0);
            }
        }
        Due.is("the face is " + got + ", it", got.equals(want), true);
        Due.is("the class is public and final", ShareBench.class.getModifiers(), Modifier.PUBLIC | Modifier.FINAL);
        noMethodHidesTheFace(ShareBench.class, names);
        classesInside(names);
        fields();
        for (Constructor<?> made : ShareBench.class.getDeclaredConstructors()) {
            Due.is(made + " parameters", made.getParameterCount(), 0);
            Due.is(made + " is public", made.getModifiers(), Modifier.PUBLIC);
        }
        Due.is("NONE", ShareBench.NONE, -1);
    }

    private static void noMethodHidesTheFace(Class<?> type, Set<String> names) {
        for (Method method : type.getDeclaredMethods()) {
            boolean isOfTheFace = type == ShareBench.class && Modifier.isPublic(method.getModifiers());
            Due.is(method + " bears a name of the face", !isOfTheFace && names.contains(method.getName()), false);
        }
    }

    private static void classesInside(Set<String> names) {
        for (Class<?> inside : ShareBench.class.getDeclaredClasses()) {
            Due.is(inside + " static", Modifier.isStatic(inside.getModifiers()), true);
            Due.is(inside + " hidden", !Modifier.isPublic(inside.getModifiers())
                && !Modifier.isProtected(inside.getModifiers()), true);
            noMethodHidesTheFace(inside, names);
        }
    }

    private static void fields() {
        for (Field field : ShareBench.class.getDeclaredFields()) {
            boolean isNone = field.getName().equals("NONE");
            Due.is(field + " private", Modifier.isPrivate(field.getModifiers()), !isNone);
            if (isNone) {
                Due.is(field + " is public static final", field.getModifiers(),
                    Modifier.PUBLIC | Modifier.STATIC | Modifier.FINAL);
                Due.is(field + " of type", field.getType().getName(), "int");
            }
        }
    }

    private static String told(Method method) {
        StringBuilder text = new StringBuilder(method.getReturnType() + " " + method.getName() + "(");
        String comma = "";
        for (Class<?> type : method.getParameterTypes()) {
            text.append(comma).append(type);
            comma = ",";
        }
        return text.append(")").toString();
    }

    private static void newObject() {
        ShareBench x = new ShareBench();
        for (int sort = 0; sort < 4; sort++) {
            Due.is("new: count", x.count(sort), 0);
        }
        Due.is("new: beads(1)", x.beads(1), false);
        Due.is("new: least", x.least(), -1);
        Due.is("new: marked(0, 1)", x.marked(0, 1), 1);
        Due.is("new: marked(0, 2)", x.marked(0, 2), -1);
        Due.is("new: ended(0)", x.ended(0), -1);
        Due.is("new: has(0)", x.has(0), 0);
        Due.is("new: has(1)", x.has(1), -1);
        Due.is("new: room(0, 1, 0)", x.room(0, 1, 0), false);
        Due.is("new: best", x.best(), 0);
        Due.is("new: price(0)", x.price(0), 0);
        Due.is("new: grudge(0, 0)", x.grudge(0, 0), 0);
        Due.is("new: check", x.check(), 0);
        Due.is("new: stretch(0, 1, 0)", x.stretch(0, 1, 0), false);
        Due.is("new: stretch(1, 0, 0)", x.stretch(1, 0, 0), false);
        Due.is("new: who(0)", x.who(0), 0);
        Due.is("new: who(1)", x.who(1), -1);
        Due.is("new: place(0, 0)", x.place(0, 0), 1);
        Due.is("new: place(0, 1)", x.place(0, 1), 1);
        Due.is("new: worth(0, 0, 0)", x.worth(0, 0, 0), 0);
        Due.is("new: worth(0, 0, 1)", x.worth(0, 0, 1), 1);
        Due.is("new: envies(0)", x.envies(0), 0);
    }

    private static void objectsAreApart() {
        ShareBench x = new ShareBench();
        ShareBench y = new ShareBench();
        x.bead(0);
        x.net(3);
        x.people(2);
        x.line(4);
        Due.is("apart: count", y.count(0), 0);
        Due.is("apart: marked(2, 0)", y.marked(2, 0), -1);
        Due.is("apart: has(1)", y.has(1), -1);
        Due.is("apart: place(0, 0)", y.place(0, 0), 1);
    }
}
