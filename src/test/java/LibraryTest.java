import java.io.DataInputStream;
import java.io.IOException;
import java.io.InputStream;
import java.util.Set;
import java.util.TreeSet;

/** LANGUAGE.md, rule 4: what the compiled class and those inside it take from the library, by their tables of constants. */
public final class LibraryTest {
    /** All of it that is used by now; more may come if the rule lists it. */
    private static final Set<String> LISTED = Set.of("java/lang/Object.<init>", "java/lang/Integer.bitCount",
            "java/lang/IndexOutOfBoundsException.<init>", "java/lang/IllegalArgumentException.<init>",
            "java/lang/IllegalStateException.<init>");

    public static void main(String[] args) throws IOException {
        Set<String> used = new TreeSet<>();
        addUsedBy(WeftStore.class, used);
        for (Class<?> inside : WeftStore.class.getDeclaredClasses()) {
            addUsedBy(inside, used);
        }
        Check.is("the class uses the library", used.contains("java/lang/Object.<init>"), true);
        for (String name : used) {
            Check.is("the class may use " + name, LISTED.contains(name), true);
        }
        Check.end();
    }

    private static void addUsedBy(Class<?> type, Set<String> used) throws IOException {
        try (InputStream file = type.getResourceAsStream(type.getName() + ".class")) {
            Constants constants = new Constants(new DataInputStream(file));
            for (String name : constants.members()) {
                if (!name.startsWith("WeftStore.") && !name.startsWith("WeftStore$") && !name.startsWith("[")) {
                    used.add(name);
                }
            }
        }
    }

    /** The table of constants of a class file: two numbers or a text for each of them. */
    private static final class Constants {
        private final int[] kind;
        private final int[] first;
        private final int[] second;
        private final String[] text;

        Constants(DataInputStream in) throws IOException {
            in.readInt();
            in.readInt();
            int count = in.readUnsignedShort();
            kind = new int[count];
            first = new int[count];
            second = new int[count];
            text = new String[count];
            for (int i = 1; i < count; i++) {
                kind[i] = in.readUnsignedByte();
                read(in, i);
                // A long or a double takes two places.
                i += kind[i] == 5 || kind[i] == 6 ? 1 : 0;
            }
        }

        private void read(DataInputStream in, int i) throws IOException {
            switch (kind[i]) {
                case 1:
                    text[i] = in.readUTF();
                    break;
                case 5: case 6:
                    in.readLong();
                    break;
                case 7: case 8: case 16: case 19: case 20:
                    first[i] = in.readUnsignedShort();
                    break;
                case 15:
                    first[i] = in.readUnsignedByte();
                    second[i] = in.readUnsignedShort();
                    break;
                default:
                    first[i] = in.readUnsignedShort();
                    second[i] = in.readUnsignedShort();
                    break;
            }
        }

        /** All fields and methods that the class names, each behind its class. */
        Set<String> members() {
            Set<String> found = new TreeSet<>();
            for (int i = 1; i < kind.length; i++) {
                if (kind[i] >= 9 && kind[i] <= 11) {
                    found.add(text[first[first[i]]] + "." + text[first[second[i]]]);
                } else if (kind[i] == 17 || kind[i] == 18) {
                    found.add("a constant or call that is made as it runs");
                }
            }
            return found;
        }
    }
}
