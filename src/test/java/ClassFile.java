import java.io.DataInputStream;
import java.io.IOException;
import java.io.InputStream;
import java.util.ArrayList;
import java.util.List;

/** A class as the machine has it: its methods, and what instructions and calls they have. */
final class ClassFile {
    /** Which methods it calls, by "Owner.name(kinds)kind"; which instructions it has, by number. */
    record Code(String name, List<String> calls, List<Integer> instructions, int catches) { }

    private static final int TABLE = 0xaa, LOOKUP = 0xab, WIDE = 0xc4, WIDE_INCREASE = 0x84;
    private static final int FIRST_CALL = 0xb6, LAST_CALL = 0xba;

    final List<Code> methods = new ArrayList<>();
    private final String name;
    private final Object[] constants;

    ClassFile(Class<?> c) throws IOException {
        name = c.getName();
        try (InputStream bytes = c.getResourceAsStream(name + ".class");
            DataInputStream in = new DataInputStream(bytes)) {
            in.skipNBytes(8);
            constants = new Object[in.readUnsignedShort()];
            readConstants(in);
            in.skipNBytes(6);
            in.skipNBytes(2L * in.readUnsignedShort());
            readMembers(in, false);
            readMembers(in, true);
        }
    }

    /** Texts as they are, numbers of other constants as rows; longs and doubles count twice. */
    private void readConstants(DataInputStream in) throws IOException {
        for (int i = 1; i < constants.length; i++) {
            int tag = in.readUnsignedByte();
            switch (tag) {
                case 1 -> constants[i] = in.readUTF();
                case 3, 4 -> in.skipNBytes(4);
                case 5, 6 -> {
                    in.skipNBytes(8);
                    i++;
                }
                case 15 -> in.skipNBytes(3);
                case 7, 8, 16, 19, 20 -> constants[i] = new int[] {in.readUnsignedShort()};
                default -> constants[i] = new int[] {in.readUnsignedShort(), in.readUnsignedShort()};
            }
        }
    }

    private int[] row(int constant) {
        return (int[]) constants[constant];
    }

    private String text(int constant) {
        return (String) constants[constant];
    }

    private String called(int constant) {
        int[] reference = row(constant);
        int[] nameAndKind = row(reference[1]);
        String owner = text(row(reference[0])[0]).replace('/', '.');
        return owner + "." + text(nameAndKind[0]) + text(nameAndKind[1]);
    }

    private void readMembers(DataInputStream in, boolean areMethods) throws IOException {
        int count = in.readUnsignedShort();
        for (int i = 0; i < count; i++) {
            in.skipNBytes(2);
            String member = name + "." + text(in.readUnsignedShort()) + text(in.readUnsignedShort());
            int attributes = in.readUnsignedShort();
            for (int k = 0; k < attributes; k++) {
                String attribute = text(in.readUnsignedShort());
                byte[] bytes = in.readNBytes(in.readInt());
                if (areMethods && attribute.equals("Code")) {
                    methods.add(code(member, bytes));
                }
            }
        }
    }

    private Code code(String member, byte[] b) {
        int start = 8;
        int end = start + word(b, 4);
        Code code = new Code(member, new ArrayList<>(), new ArrayList<>(), half(b, end));
        for (int at = start; at < end; at += length(b, at, at - start)) {
            int instruction = b[at] & 0xff;
            code.instructions().add(instruction);
            if (instruction >= FIRST_CALL && instruction < LAST_CALL) {
                code.calls().add(called(half(b, at + 1)));
            }
        }
        return code;
    }

    private static int half(byte[] b, int at) {
        return (b[at] & 0xff) << 8 | b[at + 1] & 0xff;
    }

    private static int word(byte[] b, int at) {
        return half(b, at) << 16 | half(b, at + 2);
    }

    /** Of the instruction at a place of the bytes that is so far from the method's begin. */
    private static int length(byte[] b, int at, int from) {
        int i = b[at] & 0xff;
        int padding = 3 - from % 4;
        if (i == TABLE) {
            return 1 + padding + 12 + 4 * (word(b, at + padding + 9) - word(b, at + padding + 5) + 1);
        }
        if (i == LOOKUP) {
            return 1 + padding + 8 + 8 * word(b, at + padding + 5);
        }
        if (i == WIDE) {
            return (b[at + 1] & 0xff) == WIDE_INCREASE ? 6 : 4;
        }
        return plainLength(i);
    }

    private static int plainLength(int i) {
        if (i == 0x10 || i == 0x12 || i >= 0x15 && i <= 0x19 || i >= 0x36 && i <= 0x3a || i == 0xa9 || i == 0xbc) {
            return 2;
        }
        if (i == 0xb9 || i == 0xba || i == 0xc8 || i == 0xc9) {
            return 5;
        }
        if (i == 0xc5) {
            return 4;
        }
        boolean three = i == 0x11 || i == 0x13 || i == 0x14 || i == 0x84 || i >= 0x99 && i <= 0xa8
            || i >= 0xb2 && i <= 0xb8 || i == 0xbb || i == 0xbd || i == 0xc0 || i == 0xc1 || i == 0xc6 || i == 0xc7;
        return three ? 3 : 1;
    }
}
