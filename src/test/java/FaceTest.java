import java.lang.reflect.Array;
import java.lang.reflect.Constructor;
import java.lang.reflect.Field;
import java.lang.reflect.Method;
import java.lang.reflect.Modifier;
import java.util.Arrays;
import java.util.Collections;
import java.util.IdentityHashMap;
import java.util.Set;
import java.util.TreeSet;

/** The public face, and the room that an object and its calls take. */
public final class FaceTest {
    private static final String[] FACE = {
        "int type(long, int)", "int again(int)", "int add(int, int, int, int, int, int)",
        "int link(int)", "int clear()", "int pack(int, int)", "int part(int, int)",
        "int stage(int, int)", "int checksum()", "int receive()", "int pass(int, int, int)",
        "void forge(int, int)", "int empty()", "int unpack()", "int about(int, int, int)",
        "int byteOf(int, int, int)"};
    /** The one room that an object and all that its calls make must share. */
    private static final long MOST_OBJECTS = 600_000;
    private static final long MOST_ELEMENTS = 7_300_000;
    private static final int MOST_CLASSES = 14;
    private static final int ROUNDS_OF_CALLS = 8;

    private FaceTest() {}

    public static void main(String[] args) throws ReflectiveOperationException {
        faceIsTheDocuments();
        nothingElseIsSeen();
        objectIsSmall();
        callsMakeLittle();
        Check.end();
    }

    private static String face(Method method) {
        StringBuilder text = new StringBuilder();
        text.append(method.getReturnType()).append(' ').append(method.getName()).append('(');
        for (Class<?> type : method.getParameterTypes()) {
            text.append(text.charAt(text.length() - 1) == '(' ? "" : ", ").append(type);
        }
        return text.append(')').toString();
    }

    private static void faceIsTheDocuments() {
        Set<String> got = new TreeSet<>();
        for (Method method : MailChain.class.getDeclaredMethods()) {
            if (Modifier.isPublic(method.getModifiers())) {
                got.add(face(method));
            }
        }
        Check.same("face", got.toString(), new TreeSet<>(Arrays.asList(FACE)).toString());
        Check.due("final", Modifier.isFinal(MailChain.class.getModifiers()) ? 1 : 0, 1);
        Constructor<?>[] constructors = MailChain.class.getConstructors();
        Check.due("constructors", constructors.length, 1);
        Check.due("parameters", constructors[0].getParameterCount(), 0);
    }

    private static void nothingElseIsSeen() {
        Set<String> names = new TreeSet<>();
        for (Method method : MailChain.class.getDeclaredMethods()) {
            int modifiers = method.getModifiers();
            boolean seen = !Modifier.isPrivate(modifiers) && !Modifier.isPublic(modifiers);
            Check.due("seen: " + method.getName(), seen ? 1 : 0, 0);
            if (Modifier.isPublic(modifiers)) {
                names.add(method.getName());
            }
        }
        for (Field field : MailChain.class.getDeclaredFields()) {
            Check.due("private: " + field.getName(),
                    Modifier.isPrivate(field.getModifiers()) ? 1 : 0, 1);
        }
        noPrivateMethodHasANameOf(MailChain.class, names);
        Class<?>[] inside = MailChain.class.getDeclaredClasses();
        for (Class<?> each : inside) {
            boolean seen = Modifier.isPublic(each.getModifiers())
                    || Modifier.isProtected(each.getModifiers());
            Check.due("seen: " + each.getName(), seen ? 1 : 0, 0);
            noPrivateMethodHasANameOf(each, names);
        }
        Check.due("classes inside", inside.length <= MOST_CLASSES ? 1 : 0, 1);
    }

    private static void noPrivateMethodHasANameOf(Class<?> owner, Set<String> names) {
        for (Method method : owner.getDeclaredMethods()) {
            boolean wrong = Modifier.isPrivate(method.getModifiers())
                    && names.contains(method.getName());
            Check.due("a name of the face: " + method.getName(), wrong ? 1 : 0, 0);
        }
    }

    private static final class Sums {
        final Set<Object> seen = Collections.newSetFromMap(new IdentityHashMap<>());
        long elements = 0;

        /** Adds the objects and arrays that hang on one, and their fields and elements. */
        void add(Object object) throws ReflectiveOperationException {
            if (object == null || !seen.add(object)) {
                return;
            }
            if (object.getClass().isArray()) {
                elements += Array.getLength(object);
                for (int i = 0; object instanceof Object[] && i < Array.getLength(object); i++) {
                    add(Array.get(object, i));
                }
            } else if (object.getClass().getName().startsWith("MailChain")) {
                addFields(object);
            }
        }

        private void addFields(Object object) throws ReflectiveOperationException {
            for (Field field : object.getClass().getDeclaredFields()) {
                if (!Modifier.isStatic(field.getModifiers())) {
                    elements++;
                    field.setAccessible(true);
                    add(field.getType().isPrimitive() ? null : field.get(object));
                }
            }
        }
    }

    private static void objectIsSmall() throws ReflectiveOperationException {
        Sums sums = new Sums();
        sums.add(new MailChain());
        System.out.println(
                sums.seen.size() + " objects, " + sums.elements + " fields and elements");
        Check.due("objects", sums.seen.size() <= MOST_OBJECTS ? 1 : 0, 1);
        Check.due("elements", sums.elements <= MOST_ELEMENTS ? 1 : 0, 1);
    }

    private static long allocated() {
        com.sun.management.ThreadMXBean bean = (com.sun.management.ThreadMXBean)
                java.lang.management.ManagementFactory.getThreadMXBean();
        return bean.getThreadAllocatedBytes(Thread.currentThread().getId());
    }

    private static void callsMakeLittle() {
        manyCalls(new MailChain());
        MailChain chain = new MailChain();
        long before = allocated();
        for (int i = 0; i < ROUNDS_OF_CALLS; i++) {
            manyCalls(chain);
        }
        long bytes = allocated() - before;
        System.out.println(bytes + " bytes made by calls");
        Check.due("elements made by calls", bytes / 8 <= MOST_ELEMENTS ? 1 : 0, 1);
    }

    /** Some sixty calls. */
    private static void manyCalls(MailChain chain) {
        chain.clear();
        chain.type('d', 1);
        chain.add(0, 1, 0, 0, 0, 0);
        for (int i = 0; i < 8; i++) {
            chain.type(0x6463626100612f64L + ((long) i << 16), 8);
            chain.again(5);
            chain.again(10);
            chain.add(1, 3, 0, 0, 0, 0);
        }
        chain.type('z', 1);
        chain.link(1);
        int parts = chain.pack(9, 100);
        for (int k = 1; k <= parts; k++) {
            chain.part(k, 0);
            chain.pass(k, 0, 0);
        }
        chain.unpack();
        chain.stage(0, 50);
        chain.about(1, 8, 5);
        chain.byteOf(1, 5, 5);
        chain.type('x', 1);
        chain.receive();
        chain.type('x', 1);
        chain.forge(0, 9);
        chain.unpack();
        chain.empty();
        chain.checksum();
    }
}
