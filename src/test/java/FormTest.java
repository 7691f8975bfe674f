import java.io.DataInputStream;
import java.io.IOException;
import java.lang.reflect.Constructor;
import java.lang.reflect.Field;
import java.lang.reflect.Method;
import java.lang.reflect.Modifier;
import java.util.ArrayList;
import java.util.List;
import java.util.Set;

/** What LANGUAGE.md asks for, as far as the compiled classes tell it; the rule's number is ahead of each. */
public final class FormTest {
    private static final int MOST_CLASSES = 12, MOST_FIELDS = 20, MOST_PARAMETERS = 7;
    private static final Set<Class<?>> CONSTANTS =
        Set.of(int.class, long.class, boolean.class, char.class, String.class,
            int[].class, long[].class, char[].class, byte[].class);
    /** All of the library that the class calls; LANGUAGE.md leaves more, so a new one is looked up there first. */
    private static final Set<String> LIBRARY = Set.of(
        "java/lang/Object.<init>", "java/lang/String.length", "java/lang/String.charAt", "java/lang/Math.max",
        "java/lang/Math.min", "java/lang/Integer.bitCount", "java/util/Arrays.fill");

    private static final Check check = new Check();

    public static void main(String[] args) throws IOException {
        List<Class<?>> classes = new ArrayList<>(List.of(RebusSigns.class.getDeclaredClasses()));
        for (Class<?> inside : classes) {
            lookInside(inside);
        }
        classes.add(RebusSigns.class);
        check.holds("11: few classes: " + classes.size(), classes.size() <= MOST_CLASSES);
        for (Class<?> each : classes) {
            lookAtFields(each);
            lookAtParameters(each);
            lookAtLibrary(each);
        }
        check.finish();
    }

    private static void lookInside(Class<?> inside) {
        int is = inside.getModifiers();
        check.holds("1: private or package-visible: " + inside, !Modifier.isPublic(is) && !Modifier.isProtected(is));
        check.holds("2: static: " + inside, Modifier.isStatic(is));
        check.due("2: classes inside " + inside, inside.getDeclaredClasses().length, 0);
    }

    private static void lookAtFields(Class<?> each) {
        int fields = 0;
        for (Field f : each.getDeclaredFields()) {
            if (Modifier.isStatic(f.getModifiers())) {
                check.holds("5: final: " + f, Modifier.isFinal(f.getModifiers()));
                check.holds("5: a constant: " + f, CONSTANTS.contains(f.getType()));
            } else {
                fields++;
            }
        }
        check.holds("11: few fields: " + each, fields <= MOST_FIELDS);
    }

    private static void lookAtParameters(Class<?> each) {
        for (Method m : each.getDeclaredMethods()) {
            check.holds("11: few parameters: " + m, m.getParameterCount() <= MOST_PARAMETERS);
            check.holds("2: no lambda: " + m, !m.isSynthetic());
        }
        for (Constructor<?> c : each.getDeclaredConstructors()) {
            check.holds("11: few parameters: " + c, c.getParameterCount() <= MOST_PARAMETERS);
        }
    }

    private static void lookAtLibrary(Class<?> each) throws IOException {
        for (String method : new Constants(each).methods()) {
            check.holds("4: the library's " + method, method.startsWith("RebusSigns") || LIBRARY.contains(method));
        }
    }

    /** The constants of a compiled class, as the Java machine's own document lays them out. */
    private static final class Constants {
        private static final int TEXT = 1, LONG = 5, DOUBLE = 6, CLASS = 7, METHOD = 10, INTERFACE_METHOD = 11;
        private static final int NAME_AND_TYPE = 12, HANDLE = 15, DYNAMIC = 17, INVOKE_DYNAMIC = 18;

        private final int[] kinds;
        private final int[] firsts;
        private final int[] seconds;
        private final String[] texts;

        Constants(Class<?> each) throws IOException {
            try (DataInputStream in = new DataInputStream(
                each.getResourceAsStream("/" + each.getName() + ".class"))) {
                in.skipNBytes(8);
                int size = in.readUnsignedShort();
                kinds = new int[size];
                firsts = new int[size];
                seconds = new int[size];
                texts = new String[size];
                for (int i = 1; i < size; i++) {
                    readOne(in, i);
                    // A long one has two places, of which the second is empty.
                    i += kinds[i] == LONG || kinds[i] == DOUBLE ? 1 : 0;
                }
            }
        }

        private void readOne(DataInputStream in, int i) throws IOException {
            kinds[i] = in.readUnsignedByte();
            switch (kinds[i]) {
                case TEXT -> texts[i] = in.readUTF();
                case LONG, DOUBLE -> in.readLong();
                case CLASS, 8, 16, 19, 20 -> firsts[i] = in.readUnsignedShort();
                case 3, 4 -> in.readInt();
                case HANDLE -> in.skipNBytes(3);
                case 9, METHOD, INTERFACE_METHOD, NAME_AND_TYPE, DYNAMIC, INVOKE_DYNAMIC -> {
                    firsts[i] = in.readUnsignedShort();
                    seconds[i] = in.readUnsignedShort();
                }
                default -> throw new IOException("constant of kind " + kinds[i]);
            }
        }

        /** The methods that the class calls, as owner.name; made calls (lambdas, joined texts) as such. */
        List<String> methods() {
            List<String> all = new ArrayList<>();
            for (int i = 1; i < kinds.length; i++) {
                if (kinds[i] == METHOD || kinds[i] == INTERFACE_METHOD) {
                    all.add(texts[firsts[firsts[i]]] + "." + texts[firsts[seconds[i]]]);
                } else if (kinds[i] == DYNAMIC || kinds[i] == INVOKE_DYNAMIC) {
                    all.add("a made call");
                }
            }
            return all;
        }
    }
}
