import java.io.ByteArrayInputStream;
import java.io.DataInputStream;
import java.io.IOException;
import java.io.InputStream;
import java.util.ArrayList;
import java.util.List;
import java.util.Set;

/** LANGUAGE.md, rules 4, 6 and 13: what the class files call and use of the library is what is listed there. */
public final class LibraryTest {
    /** Some of what is listed: as much as the class uses. What is used more must be listed in LANGUAGE.md first. */
    private static final Set<String> CALLS = Set.of("java/lang/Object.<init>", "java/lang/String.length",
            "java/lang/String.charAt", "java/lang/Math.max", "java/lang/Math.min", "java/lang/System.arraycopy",
            "java/util/Arrays.fill");
    private static final Set<String> CLASSES = Set.of("java/lang/Object", "java/lang/String", "java/lang/Math",
            "java/lang/System", "java/util/Arrays");

    public static void main(String[] args) throws IOException {
        look(OatFerry.class);
        for (Class<?> c : OatFerry.class.getDeclaredClasses()) {
            look(c);
        }
        Check.end();
    }

    private static void look(Class<?> c) throws IOException {
        try (InputStream file = c.getResourceAsStream("/" + c.getName() + ".class")) {
            Check.yes(c.getName() + " has a class file", file != null);
            if (file != null) {
                new Pool(file.readAllBytes()).check(c.getName());
            }
        }
    }

    /** The constants of a class file: every class, method and field that it uses is named there. */
    private static final class Pool {
        private final int[] tags;
        private final int[] first;
        private final int[] second;
        private final String[] texts;

        Pool(byte[] bytes) throws IOException {
            DataInputStream in = new DataInputStream(new ByteArrayInputStream(bytes));
            in.skipNBytes(8);
            int size = in.readUnsignedShort();
            tags = new int[size];
            first = new int[size];
            second = new int[size];
            texts = new String[size];
            for (int i = 1; i < size; i++) {
                tags[i] = in.readUnsignedByte();
                switch (tags[i]) {
                    case 1 -> texts[i] = in.readUTF();
                    case 3, 4 -> in.skipNBytes(4);
                    case 5, 6 -> {
                        in.skipNBytes(8);
                        i++; // A long or a double counts for two.
                    }
                    case 7, 8, 16, 19, 20 -> first[i] = in.readUnsignedShort();
                    case 15 -> in.skipNBytes(3);
                    default -> {
                        first[i] = in.readUnsignedShort();
                        second[i] = in.readUnsignedShort();
                    }
                }
            }
        }

        void check(String name) {
            List<String> called = new ArrayList<>();
            for (int i = 1; i < tags.length; i++) {
                if (tags[i] == 7) {
                    checkClass(name, texts[first[i]]);
                } else if (tags[i] == 10 || tags[i] == 11) {
                    called.add(texts[first[first[i]]] + "." + texts[first[second[i]]]);
                } else if (tags[i] == 9) {
                    Check.yes(name + " uses no field of the library", isOwn(texts[first[first[i]]]));
                } else {
                    Check.yes(name + " has no lambda, no joining by +", tags[i] < 15 || tags[i] > 18);
                }
            }
            for (String call : called) {
                boolean own = isOwn(call.substring(0, call.lastIndexOf('.')));
                Check.yes(name + " calls " + call, own || CALLS.contains(call));
            }
        }

        private static boolean isOwn(String used) {
            return used.equals("OatFerry") || used.startsWith("OatFerry$");
        }

        private static void checkClass(String name, String used) {
            boolean numbers = used.matches("\\[+[IJSBCZDF]");
            Check.yes(name + " uses " + used, numbers || isOwn(used) || CLASSES.contains(used));
        }
    }
}
