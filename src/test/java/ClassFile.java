import java.io.DataInputStream;
import java.io.IOException;
import java.io.InputStream;
import java.util.ArrayList;
import java.util.Collections;
import java.util.List;

/** A compiled class, read only so far as to tell the instructions of its methods and what they call. */
final class ClassFile {
    private static final int TABLE_SWITCH = 0xaa;
    private static final int LOOKUP_SWITCH = 0xab;
    private static final int INVOKE_VIRTUAL = 0xb6;
    private static final int INVOKE_INTERFACE = 0xb9;
    private static final int WIDE = 0xc4;
    private static final int INCREMENT = 0x84;
    /** Numbers of bytes: from each opcode on, up to the next one that is told. */
    private static final int[][] LENGTHS = {{0x00, 1}, {0x10, 2}, {0x11, 3}, {0x12, 2}, {0x13, 3}, {0x15, 2}, {0x1a, 1},
        {0x36, 2}, {0x3b, 1}, {0x84, 3}, {0x85, 1}, {0x99, 3}, {0xa9, 2}, {0xac, 1}, {0xb2, 3}, {0xb9, 5}, {0xbb, 3},
        {0xbc, 2}, {0xbd, 3}, {0xbe, 1}, {0xc0, 3}, {0xc2, 1}, {0xc5, 4}, {0xc6, 3}, {0xc8, 5}};

    /** An instruction; the target is "Class.method" if it calls one, and empty otherwise. */
    record Instruction(int opcode, String target) {
    }

    /** A method with its instructions, and the number of exceptions that it catches. */
    record Body(String name, List<Instruction> instructions, int catches) {
    }

    final String name;
    final List<Body> bodies = new ArrayList<>();
    private final Object[] pool;

    ClassFile(String name) throws IOException {
        this.name = name;
        try (InputStream file = ClassFile.class.getResourceAsStream("/" + name + ".class")) {
            DataInputStream in = new DataInputStream(file);
            in.readLong();
            pool = new Object[in.readUnsignedShort()];
            readPool(in);
            in.readInt();
            in.readUnsignedShort();
            in.skipBytes(2 * in.readUnsignedShort());
            readMembers(in, false);
            readMembers(in, true);
        }
    }

    private void readPool(DataInputStream in) throws IOException {
        for (int i = 1; i < pool.length; i++) {
            int tag = in.readUnsignedByte();
            switch (tag) {
                case 1 -> pool[i] = in.readUTF();
                case 7, 8, 16, 19, 20 -> pool[i] = new int[] {in.readUnsignedShort()};
                case 15 -> in.skipBytes(3);
                case 5, 6 -> {
                    in.readLong();
                    i++;
                }
                case 3, 4 -> in.readInt();
                default -> pool[i] = new int[] {in.readUnsignedShort(), in.readUnsignedShort()};
            }
        }
    }

    private void readMembers(DataInputStream in, boolean methods) throws IOException {
        int members = in.readUnsignedShort();
        for (int i = 0; i < members; i++) {
            in.readUnsignedShort();
            String member = (String) pool[in.readUnsignedShort()];
            in.readUnsignedShort();
            int attributes = in.readUnsignedShort();
            for (int j = 0; j < attributes; j++) {
                boolean code = pool[in.readUnsignedShort()].equals("Code");
                byte[] bytes = in.readNBytes(in.readInt());
                if (methods && code) {
                    bodies.add(bodyOf(member, bytes));
                }
            }
        }
    }

    private Body bodyOf(String member, byte[] attribute) {
        int length = fourAt(attribute, 4);
        List<Instruction> instructions = new ArrayList<>();
        for (int at = 8; at < 8 + length;) {
            int opcode = attribute[at] & 255;
            boolean call = opcode >= INVOKE_VIRTUAL && opcode <= INVOKE_INTERFACE;
            instructions.add(new Instruction(opcode, call ? target(twoAt(attribute, at + 1)) : ""));
            at += lengthOf(attribute, at);
        }
        return new Body(member, Collections.unmodifiableList(instructions), twoAt(attribute, 8 + length));
    }

    private String target(int index) {
        int[] reference = (int[]) pool[index];
        String owner = (String) pool[((int[]) pool[reference[0]])[0]];
        return owner + "." + pool[((int[]) pool[reference[1]])[0]];
    }

    /** The code begins at the byte 8, and switches align their numbers to the beginning of the code. */
    private static int lengthOf(byte[] code, int at) {
        int opcode = code[at] & 255;
        int numbers = at + 4 - at % 4;
        if (opcode == TABLE_SWITCH) {
            return numbers + 12 + 4 * (fourAt(code, numbers + 8) - fourAt(code, numbers + 4) + 1) - at;
        }
        if (opcode == LOOKUP_SWITCH) {
            return numbers + 8 + 8 * fourAt(code, numbers + 4) - at;
        }
        if (opcode == WIDE) {
            return (code[at + 1] & 255) == INCREMENT ? 6 : 4;
        }
        int length = 0;
        for (int[] each : LENGTHS) {
            length = opcode >= each[0] ? each[1] : length;
        }
        return length;
    }

    private static int twoAt(byte[] bytes, int at) {
        return (bytes[at] & 255) << 8 | bytes[at + 1] & 255;
    }

    private static int fourAt(byte[] bytes, int at) {
        return twoAt(bytes, at) << 16 | twoAt(bytes, at + 2);
    }
}
