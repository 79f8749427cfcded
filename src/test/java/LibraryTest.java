import java.io.DataInputStream;
import java.io.IOException;
import java.io.InputStream;
import java.util.ArrayList;
import java.util.List;
import java.util.Set;
import java.util.TreeSet;

/** Rule 4 of LANGUAGE.md, from the class files: the program calls nothing of the library but what stands here. */
public final class LibraryTest {
    private static final Set<String> LISTED = Set.of("java/lang/Object.<init>", "java/lang/String.length", "java/lang/String.charAt",
            "java/lang/String.indexOf", "java/lang/Integer.bitCount", "java/lang/Math.abs", "java/lang/Math.max", "java/lang/Math.min",
            "java/lang/System.arraycopy", "java/util/Arrays.fill", "java/util/NoSuchElementException.<init>");
    private static final int MOST_CLASSES = 13;

    private static final int UTF8 = 1;
    private static final int CLASS = 7;
    private static final int FIELD = 9;
    private static final int METHOD = 10;
    private static final int INTERFACE_METHOD = 11;
    private static final int NAME_AND_TYPE = 12;

    /** The parts of a class file's pool, by their numbers. */
    private record Part(int tag, int one, int two, String text) {
    }

    public static void main(String[] args) throws IOException {
        List<Class<?>> all = new ArrayList<>(List.of(ShoeOrchard.class.getDeclaredClasses()));
        all.add(ShoeOrchard.class);
        Check.due("some twelve classes", all.size() <= MOST_CLASSES, true);
        Set<String> used = new TreeSet<>();
        for (Class<?> each : all) {
            used.addAll(usedBy(each));
        }
        Check.due("the program uses a library at all", used.size() > 1, true);
        for (String each : used) {
            Check.due(each + " is listed", LISTED.contains(each), true);
        }
        Check.end();
    }

    private static Set<String> usedBy(Class<?> each) throws IOException {
        Part[] pool = poolOf(each);
        Set<String> used = new TreeSet<>();
        for (Part part : pool) {
            if (part != null && (part.tag() == METHOD || part.tag() == INTERFACE_METHOD || part.tag() == FIELD)) {
                String owner = pool[pool[part.one()].one()].text();
                if (!owner.startsWith("ShoeOrchard")) {
                    used.add(owner + "." + pool[pool[part.two()].one()].text());
                }
            }
        }
        return used;
    }

    private static Part[] poolOf(Class<?> each) throws IOException {
        try (InputStream file = each.getResourceAsStream(each.getName() + ".class"); DataInputStream in = new DataInputStream(file)) {
            in.readInt();
            in.readInt();
            Part[] pool = new Part[in.readUnsignedShort()];
            for (int i = 1; i < pool.length; i++) {
                pool[i] = readPart(in);
                // Longs and doubles take two numbers.
                i += pool[i].tag() == 5 || pool[i].tag() == 6 ? 1 : 0;
            }
            return pool;
        }
    }

    /** A handle, or what is called by invokedynamic, would be a lambda or a joining by +: there is none. */
    private static Part readPart(DataInputStream in) throws IOException {
        int tag = in.readUnsignedByte();
        switch (tag) {
            case UTF8:
                return new Part(tag, 0, 0, in.readUTF());
            case 3, 4:
                in.readInt();
                return new Part(tag, 0, 0, "");
            case 5, 6:
                in.readLong();
                return new Part(tag, 0, 0, "");
            case CLASS, 8:
                return new Part(tag, in.readUnsignedShort(), 0, "");
            case FIELD, METHOD, INTERFACE_METHOD, NAME_AND_TYPE:
                return new Part(tag, in.readUnsignedShort(), in.readUnsignedShort(), "");
            default:
                throw new IOException("a part of kind " + tag + ", which only lambdas and joinings by + need");
        }
    }
}
