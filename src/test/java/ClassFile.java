import java.io.ByteArrayInputStream;
import java.io.DataInputStream;
import java.io.IOException;
import java.io.InputStream;
import java.util.Map;
import java.util.Set;
import java.util.TreeMap;
import java.util.TreeSet;

/** What a compiled class says of its methods: what each of them calls, and which of them make something. */
final class ClassFile {
    /** How many bytes each operation has, itself included, from 0 on; 0 where it depends on the place. */
    private static final String SIZES = "1111111111111111" + "2323322222111111" + "1111111111111111"
            + "1111112222211111" + "1111111111111111" + "1111111111111111" + "1111111111111111"
            + "1111111111111111" + "1111311111111111" + "1111111113333333" + "3333333332001111"
            + "1133333335532311" + "3311043355";
    private static final int TABLE_SWITCH = 0xaa;
    private static final int LOOKUP_SWITCH = 0xab;
    private static final int FIRST_INVOKE = 0xb6;
    private static final int LAST_INVOKE = 0xba;
    private static final int NEW = 0xbb;
    private static final int NEW_ARRAY_OF_OBJECTS = 0xbd;
    private static final int WIDE = 0xc4;
    private static final int IINC = 0x84;
    private static final int NEW_ARRAYS = 0xc5;

    /** Of each method, told as class.name(types), those that it calls. */
    final Map<String, Set<String>> calls = new TreeMap<>();
    /** The methods in which an object or an array is made. */
    final Set<String> makers = new TreeSet<>();

    private final DataInputStream in;
    private final int[] tags;
    private final int[] lefts;
    private final int[] rights;
    private final String[] texts;
    private String name = "";

    private ClassFile(InputStream bytes) throws IOException {
        in = new DataInputStream(bytes);
        in.skipNBytes(8);
        int count = in.readUnsignedShort();
        tags = new int[count];
        lefts = new int[count];
        rights = new int[count];
        texts = new String[count];
    }

    static ClassFile of(Class<?> type) throws IOException {
        try (InputStream bytes = type.getResourceAsStream("/" + type.getName() + ".class")) {
            ClassFile file = new ClassFile(bytes);
            file.readConstants();
            file.readMembers();
            return file;
        }
    }

    private void readConstants() throws IOException {
        for (int i = 1; i < tags.length; i++) {
            tags[i] = in.readUnsignedByte();
            switch (tags[i]) {
                case 1:
                    texts[i] = in.readUTF();
                    break;
                case 3, 4:
                    in.skipNBytes(4);
                    break;
                case 5, 6:
                    in.skipNBytes(8);
                    i++;
                    break;
                case 7, 8, 16, 19, 20:
                    lefts[i] = in.readUnsignedShort();
                    break;
                case 15:
                    in.skipNBytes(3);
                    break;
                default:
                    lefts[i] = in.readUnsignedShort();
                    rights[i] = in.readUnsignedShort();
                    break;
            }
        }
    }

    private void readMembers() throws IOException {
        in.skipNBytes(2);
        name = texts[lefts[in.readUnsignedShort()]];
        in.skipNBytes(2);
        in.skipNBytes(2L * in.readUnsignedShort());
        for (int left = in.readUnsignedShort(); left > 0; left--) {
            in.skipNBytes(6);
            readAttributes("");
        }
        for (int left = in.readUnsignedShort(); left > 0; left--) {
            in.skipNBytes(2);
            String method = name + "." + texts[in.readUnsignedShort()];
            method += texts[in.readUnsignedShort()];
            calls.put(method, new TreeSet<>());
            readAttributes(method);
        }
    }

    private void readAttributes(String method) throws IOException {
        for (int left = in.readUnsignedShort(); left > 0; left--) {
            String kind = texts[in.readUnsignedShort()];
            byte[] bytes = in.readNBytes(in.readInt());
            if (kind.equals("Code")) {
                DataInputStream code = new DataInputStream(new ByteArrayInputStream(bytes));
                code.skipNBytes(4);
                readCode(method, code.readNBytes(code.readInt()));
            }
        }
    }

    private static int shortAt(byte[] code, int at) {
        return (code[at] & 255) << 8 | code[at + 1] & 255;
    }

    private static int intAt(byte[] code, int at) {
        return shortAt(code, at) << 16 | shortAt(code, at + 2);
    }

    private void readCode(String method, byte[] code) {
        int at = 0;
        while (at < code.length) {
            int operation = code[at] & 255;
            if (operation >= FIRST_INVOKE && operation <= LAST_INVOKE) {
                calls.get(method).add(called(shortAt(code, at + 1)));
            }
            if (operation >= NEW && operation <= NEW_ARRAY_OF_OBJECTS || operation == NEW_ARRAYS) {
                makers.add(method);
            }
            at += sizeAt(code, at);
        }
    }

    private static int sizeAt(byte[] code, int at) {
        int operation = code[at] & 255;
        int aligned = (at + 4) / 4 * 4;
        switch (operation) {
            case TABLE_SWITCH:
                return aligned - at + 12 + 4 * (intAt(code, aligned + 8) - intAt(code, aligned + 4) + 1);
            case LOOKUP_SWITCH:
                return aligned - at + 8 + 8 * intAt(code, aligned + 4);
            case WIDE:
                return (code[at + 1] & 255) == IINC ? 6 : 4;
            default:
                return SIZES.charAt(operation) - '0';
        }
    }

    /** A constant pool's method; one without a class, of a lambda, is told by its name alone. */
    private String called(int index) {
        int type = rights[index];
        String owner = tags[index] == 18 ? "lambda" : texts[lefts[lefts[index]]];
        return owner + "." + texts[lefts[type]] + texts[rights[type]];
    }
}
