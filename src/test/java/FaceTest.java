import java.lang.reflect.Array;
import java.lang.reflect.Constructor;
import java.lang.reflect.Field;
import java.lang.reflect.Method;
import java.lang.reflect.Modifier;
import java.util.ArrayDeque;
import java.util.Arrays;
import java.util.Collections;
import java.util.Deque;
import java.util.IdentityHashMap;
import java.util.Set;
import java.util.TreeSet;

/** The public face of the document, rule 1 of the language, and the room that an object takes. */
public final class FaceTest {
    private static final String[] FACE = {
        "int feed(int,int,int,int,int)", "int text(int) A", "int fault()", "int put(int,int,int) NAS",
        "int point(int,int) NAS", "int take(int,int) NS", "int split(int,int,int) NAS", "int join(int,int) NS",
        "int move(int,int,int) NAS", "int silence(int,int) AS", "int label(int,int,int) NA", "int adopt(int) N",
        "int snap(int,int) NA", "int undo()", "int keep()", "int told(int) A", "int tier(int,int) NA",
        "int mark(int,int,int) NA", "int at(int,int) NA", "int over(int,int,int,int) NA",
        "int within(int,int,int,int) NA", "int find(int,int,int) N", "int together(int,int,int,int) N",
        "int longest(int,int,int) NA", "int gaps(int,int) NA", "int stop(int,int) N", "int room(int,int,int) NA",
        "int agree(int,int) NA", "int same(int,int,int) NA", "long print()", "int status(int)",
    };
    // 512 of so much fit into the room of one run
    private static final int MOST_OBJECTS = 600_000 / 512;
    private static final int MOST_ELEMENTS = 7_300_000 / 512;

    public static void main(String[] args) throws ReflectiveOperationException {
        members();
        names();
        room();
        Check.finish();
    }

    private static void members() {
        Class<?> c = SpeechTiers.class;
        Check.due("public final", c.getModifiers(), Modifier.PUBLIC | Modifier.FINAL);
        Set<String> got = new TreeSet<>();
        for (Method m : c.getDeclaredMethods()) {
            if (!Modifier.isPrivate(m.getModifiers())) {
                Check.due(m + " is public alone", m.getModifiers(), Modifier.PUBLIC);
                got.add(signature(m));
            }
        }
        Set<String> want = new TreeSet<>(Arrays.asList(FACE));
        Check.due("the face: " + got, got.equals(want) ? 1 : 0, 1);
        for (Constructor<?> k : c.getDeclaredConstructors()) {
            Check.due("constructor", k.getModifiers() == Modifier.PUBLIC && k.getParameterCount() == 0 ? 1 : 0, 1);
        }
        for (Field f : c.getDeclaredFields()) {
            boolean isNone = f.getName().equals("NONE");
            Check.due(f + " is private", Modifier.isPrivate(f.getModifiers()) == isNone ? 1 : 0, 0);
            Check.due(f + ": static is final", isLooseStatic(f) ? 1 : 0, 0);
        }
        Check.due("NONE", SpeechTiers.NONE, -1);
        for (Class<?> inner : c.getDeclaredClasses()) {
            Check.due(inner + " is static", Modifier.isStatic(inner.getModifiers()) ? 1 : 0, 1);
            for (Field f : inner.getDeclaredFields()) {
                Check.due(f + ": static is final", isLooseStatic(f) ? 1 : 0, 0);
            }
        }
    }

    private static boolean isLooseStatic(Field f) {
        return Modifier.isStatic(f.getModifiers()) && !Modifier.isFinal(f.getModifiers());
    }

    private static String signature(Method m) {
        StringBuilder text = new StringBuilder(m.getReturnType().getSimpleName() + " " + m.getName() + "(");
        for (int i = 0; i < m.getParameterCount(); i++) {
            text.append(i == 0 ? "" : ",").append(m.getParameterTypes()[i].getSimpleName());
        }
        text.append(')');
        for (int i = 0; i < m.getExceptionTypes().length; i++) {
            String name = m.getExceptionTypes()[i].getSimpleName();
            text.append(i == 0 ? " " : "").append(name.replace("Illegal", "").charAt(0));
        }
        return text.toString();
    }

    /** No method of its own, here or in a class inside, bears the name of one of the face. */
    private static void names() {
        Set<String> face = new TreeSet<>();
        for (String signature : FACE) {
            face.add(signature.substring(signature.indexOf(' ') + 1, signature.indexOf('(')));
        }
        for (Method m : SpeechTiers.class.getDeclaredMethods()) {
            boolean isOwn = Modifier.isPrivate(m.getModifiers());
            Check.due(m + " has a name of its own", isOwn && face.contains(m.getName()) ? 1 : 0, 0);
        }
        for (Class<?> inner : SpeechTiers.class.getDeclaredClasses()) {
            for (Method m : inner.getDeclaredMethods()) {
                Check.due(m + " has a name of its own", face.contains(m.getName()) ? 1 : 0, 0);
                Check.due(m + " takes seven at most", m.getParameterCount() > 7 ? 1 : 0, 0);
            }
        }
    }

    private static void room() throws ReflectiveOperationException {
        SpeechTiers x = new SpeechTiers();
        long fresh = measure(x);
        Check.due("objects: " + fresh / 1_000_000, fresh / 1_000_000 <= MOST_OBJECTS ? 1 : 0, 1);
        Check.due("elements: " + fresh % 1_000_000, fresh % 1_000_000 <= MOST_ELEMENTS ? 1 : 0, 1);
        Check.tell(x, "tier a free;tier b cut a;mark a 0 900;");
        x.keep();
        for (int i = 0; i < 39; i++) {
            x.split(1, i, 10 * i + 10);
            x.same(1, 5, 0);
        }
        Check.due("nothing more is kept", measure(x), fresh);
    }

    /** Objects and arrays times a million, and all their fields and elements. */
    private static long measure(Object whole) throws ReflectiveOperationException {
        Set<Object> seen = Collections.newSetFromMap(new IdentityHashMap<>());
        Deque<Object> open = new ArrayDeque<>();
        open.add(whole);
        seen.add(whole);
        long elements = 0;
        while (!open.isEmpty()) {
            Object o = open.pop();
            if (o.getClass().isArray()) {
                elements += Array.getLength(o);
                for (int i = 0; o instanceof Object[] && i < Array.getLength(o); i++) {
                    follow(Array.get(o, i), seen, open);
                }
                continue;
            }
            for (Field f : o.getClass().getDeclaredFields()) {
                if (!Modifier.isStatic(f.getModifiers())) {
                    elements++;
                    f.setAccessible(true);
                    if (!f.getType().isPrimitive()) {
                        follow(f.get(o), seen, open);
                    }
                }
            }
        }
        return seen.size() * 1_000_000L + elements;
    }

    private static void follow(Object o, Set<Object> seen, Deque<Object> open) {
        if (o != null && seen.add(o)) {
            open.push(o);
        }
    }
}
