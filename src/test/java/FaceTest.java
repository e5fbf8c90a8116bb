import java.lang.reflect.Constructor;
import java.lang.reflect.Field;
import java.lang.reflect.Method;
import java.lang.reflect.Modifier;
import java.util.Arrays;
import java.util.Set;
import java.util.TreeSet;

/** The public face, and the room that an object and its calls take. */
public final class FaceTest {
    private static final String[] FACE = {
        "int type(long, int)", "int again(int)", "int add(int, int, int, int, int, int)",
        "int link(int)", "int clear()", "int pack(int, int)", "int part(int, int)",
        "int stage(int, int)", "int checksum()", "int receive()", "int pass(int, int, int)",
        "void forge(int, int)", "int empty()", "int unpack()", "int about(int, int, int)",
        "int byteOf(int, int, int)"};
    private static final long MOST_ELEMENTS = 420000;
    private static final long MOST_OBJECTS = 500;
    private static final long MOST_BYTES_OF_CALLS = 20000;

    private FaceTest() {}

    public static void main(String[] args) throws ReflectiveOperationException {
        faceIsTheDocuments();
        nothingElseIsSeen();
        objectIsSmall();
        callsMakeNothing();
        Check.end();
    }

    private static String face(Method method) {
        StringBuilder text = new StringBuilder();
        text.append(method.getReturnType()).append(' ').append(method.getName()).append('(');
        for (Class<?> type : method.getParameterTypes()) {
            text.append(text.charAt(text.length() - 1) == '(' ? "" : ", ").append(type);
        }
        return text.append(')').toString();
    }

    private static void faceIsTheDocuments() {
        Set<String> got = new TreeSet<>();
        for (Method method : MailChain.class.getDeclaredMethods()) {
            if (Modifier.isPublic(method.getModifiers())) {
                got.add(face(method));
            }
        }
        Check.same("face", got.toString(), new TreeSet<>(Arrays.asList(FACE)).toString());
        Check.due("final", Modifier.isFinal(MailChain.class.getModifiers()) ? 1 : 0, 1);
        Constructor<?>[] constructors = MailChain.class.getConstructors();
        Check.due("constructors", constructors.length, 1);
        Check.due("parameters", constructors[0].getParameterCount(), 0);
    }

    private static void nothingElseIsSeen() {
        Set<String> names = new TreeSet<>();
        for (Method method : MailChain.class.getDeclaredMethods()) {
            int modifiers = method.getModifiers();
            boolean seen = !Modifier.isPrivate(modifiers) && !Modifier.isPublic(modifiers);
            Check.due("seen: " + method.getName(), seen ? 1 : 0, 0);
            if (Modifier.isPublic(modifiers)) {
                names.add(method.getName());
            }
        }
        for (Field field : MailChain.class.getDeclaredFields()) {
            Check.due("private: " + field.getName(),
                    Modifier.isPrivate(field.getModifiers()) ? 1 : 0, 1);
        }
        for (Class<?> inside : MailChain.class.getDeclaredClasses()) {
            Check.due("static: " + inside.getName(),
                    Modifier.isStatic(inside.getModifiers()) ? 1 : 0, 1);
            for (Method method : inside.getDeclaredMethods()) {
                Check.due("a name of the face: " + method.getName(),
                        names.contains(method.getName()) ? 1 : 0, 0);
            }
        }
        Check.due("classes inside", MailChain.class.getDeclaredClasses().length <= 12 ? 1 : 0, 1);
    }

    /** Adds the objects and arrays that hang on one, then their fields and elements. */
    private static void count(Object object, long[] sums) throws ReflectiveOperationException {
        sums[0]++;
        if (object.getClass().isArray()) {
            int length = java.lang.reflect.Array.getLength(object);
            sums[1] += length;
            for (int i = 0; object instanceof Object[] && i < length; i++) {
                count(((Object[]) object)[i], sums);
            }
            return;
        }
        for (Field field : object.getClass().getDeclaredFields()) {
            if (!Modifier.isStatic(field.getModifiers())) {
                sums[1]++;
                field.setAccessible(true);
                if (!field.getType().isPrimitive() && field.get(object) != null) {
                    count(field.get(object), sums);
                }
            }
        }
    }

    private static void objectIsSmall() throws ReflectiveOperationException {
        long[] sums = new long[2];
        count(new MailChain(), sums);
        System.out.println(sums[0] + " objects, " + sums[1] + " fields and elements");
        Check.due("objects", sums[0] <= MOST_OBJECTS ? 1 : 0, 1);
        Check.due("elements", sums[1] <= MOST_ELEMENTS ? 1 : 0, 1);
    }

    private static long allocated() {
        com.sun.management.ThreadMXBean bean = (com.sun.management.ThreadMXBean)
                java.lang.management.ManagementFactory.getThreadMXBean();
        return bean.getThreadAllocatedBytes(Thread.currentThread().getId());
    }

    private static void callsMakeNothing() {
        MailChain chain = new MailChain();
        manyCalls(chain);
        long before = allocated();
        for (int i = 0; i < 10; i++) {
            manyCalls(chain);
        }
        long bytes = allocated() - before;
        Check.due("bytes of 500 calls: " + bytes, bytes <= MOST_BYTES_OF_CALLS ? 1 : 0, 1);
    }

    private static void manyCalls(MailChain chain) {
        chain.clear();
        chain.type('d', 1);
        chain.add(0, 1, 0, 0, 0, 0);
        for (int i = 0; i < 8; i++) {
            chain.type(0x6463626100612f64L + ((long) i << 16), 8);
            chain.again(5);
            chain.again(10);
            chain.add(1, 3, 0, 0, 0, 0);
        }
        chain.type('z', 1);
        chain.link(1);
        int parts = chain.pack(9, 100);
        for (int k = 1; k <= parts; k++) {
            chain.part(k, 0);
            chain.pass(k, 0, 0);
        }
        chain.unpack();
        chain.stage(0, 50);
        chain.about(1, 8, 5);
        chain.byteOf(1, 5, 5);
        chain.type('x', 1);
        chain.receive();
        chain.type('x', 1);
        chain.forge(0, 9);
        chain.unpack();
        chain.empty();
        chain.checksum();
    }
}
