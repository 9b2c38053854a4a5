import java.io.DataInputStream;
import java.io.IOException;
import java.io.InputStream;
import java.util.HashMap;
import java.util.Map;
import java.util.Set;
import java.util.TreeSet;

/** What a compiled class calls or uses, as "java/lang/Math.max": it is read from the constants of its class file. */
final class CompiledClass {
    private static final int TEXT = 1;
    private static final int FLOAT = 4;
    private static final int LONG = 5;
    private static final int DOUBLE = 6;
    private static final int CLASS = 7;
    private static final int STRING = 8;
    private static final int FIELD = 9;
    private static final int INTERFACE_METHOD = 11;
    private static final int NAME_AND_TYPE = 12;
    private static final int HEAD = 8;

    private final Map<Integer, String> texts = new HashMap<>();
    private final Map<Integer, int[]> links = new HashMap<>();
    private final Set<Integer> members = new TreeSet<>();
    private final Set<String> used = new TreeSet<>();

    static Set<String> used(Class<?> c) throws IOException {
        CompiledClass compiled = new CompiledClass();
        try (InputStream file = c.getResourceAsStream(c.getName() + ".class");
                DataInputStream in = new DataInputStream(file)) {
            in.skipBytes(HEAD);
            compiled.readConstants(in);
        }
        for (int member : compiled.members) {
            int[] link = compiled.links.get(member);
            compiled.used.add(compiled.nameAt(link[0]) + "." + compiled.nameAt(link[1]));
        }
        return compiled.used;
    }

    private String nameAt(int constant) {
        return texts.get(links.get(constant)[0]);
    }

    private void readConstants(DataInputStream in) throws IOException {
        int count = in.readUnsignedShort();
        for (int i = 1; i < count; i++) {
            int kind = in.readUnsignedByte();
            if (kind == TEXT) {
                texts.put(i, in.readUTF());
            } else if (kind <= FLOAT) {
                in.readInt();
            } else if (kind == LONG || kind == DOUBLE) {
                in.readLong();
                i++;
            } else if (kind == CLASS || kind == STRING) {
                links.put(i, new int[] {in.readUnsignedShort()});
            } else if (kind <= NAME_AND_TYPE) {
                links.put(i, new int[] {in.readUnsignedShort(), in.readUnsignedShort()});
                if (kind >= FIELD && kind <= INTERFACE_METHOD) {
                    members.add(i);
                }
            } else {
                // Only what is called dynamically (a lambda, a text joined by +) has such constants.
                used.add("something dynamic, by a constant of kind " + kind);
                return;
            }
        }
    }
}
