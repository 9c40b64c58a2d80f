import java.lang.reflect.Array;
import java.lang.reflect.Constructor;
import java.lang.reflect.Field;
import java.lang.reflect.Method;
import java.lang.reflect.Modifier;
import java.util.ArrayDeque;
import java.util.Collections;
import java.util.Deque;
import java.util.IdentityHashMap;
import java.util.Set;
import java.util.TreeSet;

/** The document's public face, and what of LANGUAGE.md and of the room can be seen in the classes and objects. */
public final class PatternDeskFace extends Dues {
    private static final Set<String> METHODS = Set.of("feed(int,int,int,int,int)", "load(int)", "told(int)", "count(int)",
            "solve()", "fresh()", "size(int)", "letter(int,int)", "side(int,int)", "sideLetter(int,int,int)");
    // With the room of a whole run, 7.3 million, even two hundred objects of one run would fit.
    private static final int MOST_ELEMENTS = 7_300_000 / 200;
    private static final int MOST_OBJECTS = 600_000 / 200;

    public static void main(String[] args) throws IllegalAccessException {
        theClass();
        theConstant();
        theConstructor();
        theMethods();
        theClassesInside();
        theRoom();
        end("the face is the document's");
    }

    private static boolean isPrivate(int modifiers) {
        return Modifier.isPrivate(modifiers);
    }

    private static void theClass() {
        section("the class");
        int modifiers = PatternDesk.class.getModifiers();
        due("public", Modifier.isPublic(modifiers) ? 1 : 0, 1);
        due("final", Modifier.isFinal(modifiers) ? 1 : 0, 1);
        dueText("its superclass", PatternDesk.class.getSuperclass().getName(), "java.lang.Object");
        dueText("its package", PatternDesk.class.getPackageName(), "");
        due("interfaces", PatternDesk.class.getInterfaces().length, 0);
    }

    private static void theConstant() throws IllegalAccessException {
        section("the constant");
        for (Field field : PatternDesk.class.getDeclaredFields()) {
            if (!isPrivate(field.getModifiers())) {
                dueText("a field", Modifier.toString(field.getModifiers()) + " " + field.getType() + " " + field.getName(),
                        "public static final int NONE");
                due("NONE", field.getInt(null), -1);
            }
        }
        due("NONE by its name", PatternDesk.NONE, -1);
    }

    private static void theConstructor() {
        section("the constructor");
        Constructor<?>[] constructors = PatternDesk.class.getDeclaredConstructors();
        due("constructors", constructors.length, 1);
        due("its parameters", constructors[0].getParameterCount(), 0);
        due("public", Modifier.isPublic(constructors[0].getModifiers()) ? 1 : 0, 1);
    }

    private static String signature(Method method) {
        StringBuilder made = new StringBuilder(method.getName()).append("(");
        for (Class<?> type : method.getParameterTypes()) {
            made.append(made.charAt(made.length() - 1) == '(' ? "" : ",").append(type.getName());
        }
        return made.append(")").toString();
    }

    private static void theMethods() {
        section("the methods");
        Set<String> found = new TreeSet<>();
        for (Method method : PatternDesk.class.getDeclaredMethods()) {
            if (method.isSynthetic()) {
                continue;
            }
            String signature = signature(method);
            if (isPrivate(method.getModifiers())) {
                boolean hides = METHODS.stream().anyMatch(name -> name.startsWith(method.getName() + "("));
                due("whether private " + signature + " bears a public name", hides ? 1 : 0, 0);
            } else {
                found.add(signature);
                dueText("the sort of " + signature, Modifier.toString(method.getModifiers()), "public");
                dueText("the answer of " + signature, method.getReturnType().getName(), "int");
            }
        }
        dueText("the methods", found.toString(), new TreeSet<>(METHODS).toString());
    }

    private static void theClassesInside() {
        section("the classes inside");
        Class<?>[] inside = PatternDesk.class.getDeclaredClasses();
        due("whether there are at most twelve classes", inside.length + 1 <= 12 ? 1 : 0, 1);
        for (Class<?> one : inside) {
            due(one + " is static", Modifier.isStatic(one.getModifiers()) ? 1 : 0, 1);
            due(one + " is seen outside", Modifier.isPublic(one.getModifiers()) || Modifier.isProtected(one.getModifiers()) ? 1 : 0, 0);
            dueSmall(one);
        }
        dueSmall(PatternDesk.class);
    }

    private static void dueSmall(Class<?> one) {
        int fields = 0;
        for (Field field : one.getDeclaredFields()) {
            boolean constant = Modifier.isStatic(field.getModifiers());
            fields += constant ? 0 : 1;
            due(one + "." + field.getName() + " is static and not final",
                    constant && !Modifier.isFinal(field.getModifiers()) ? 1 : 0, 0);
        }
        due(one + " has at most twenty fields", fields <= 20 ? 1 : 0, 1);
        for (Method method : one.getDeclaredMethods()) {
            due(one + "." + method.getName() + " takes at most seven", method.getParameterCount() <= 7 ? 1 : 0, 1);
        }
    }

    private static void theRoom() throws IllegalAccessException {
        section("the room");
        PatternDesk desk = new PatternDesk();
        long[] before = room(desk);
        due("whether its elements are few", before[1] <= MOST_ELEMENTS ? 1 : 0, 1);
        due("whether its objects are few", before[0] <= MOST_OBJECTS ? 1 : 0, 1);
        String text = "con f:i->i->i;met M:i->i->i;eq \\x:i.\\y:i.M y x=\\x:i.\\y:i.f x y;";
        for (int turn = 0; turn < 20; turn++) {
            for (int at = 0; at < text.length(); at += 20) {
                desk.feed(word(text, at), word(text, at + 4), word(text, at + 8), word(text, at + 12), word(text, at + 16));
            }
            desk.load(text.length() - turn % 3);
            desk.solve();
            for (int i = 0; i < 15; i++) {
                desk.letter(0, i);
            }
        }
        long[] after = room(desk);
        due("objects after many calls", after[0], before[0]);
        due("elements after many calls", after[1], before[1]);
    }

    /** The objects that can be reached, and the fields and elements in them. */
    private static long[] room(Object start) throws IllegalAccessException {
        Set<Object> found = Collections.newSetFromMap(new IdentityHashMap<>());
        Deque<Object> open = new ArrayDeque<>();
        found.add(start);
        open.add(start);
        long elements = 0;
        while (!open.isEmpty()) {
            Object one = open.remove();
            if (one.getClass().isArray()) {
                due("rows of " + one.getClass().getComponentType(), one.getClass().getComponentType().isPrimitive() ? 1 : 0, 1);
                elements += Array.getLength(one);
                continue;
            }
            for (Field field : one.getClass().getDeclaredFields()) {
                if (Modifier.isStatic(field.getModifiers())) {
                    continue;
                }
                elements++;
                field.setAccessible(true);
                Object held = field.getType().isPrimitive() ? null : field.get(one);
                if (held != null && found.add(held)) {
                    open.add(held);
                }
            }
        }
        return new long[] {found.size(), elements};
    }
}
