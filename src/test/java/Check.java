import java.nio.charset.StandardCharsets;

/** What all tests use: texts onto the tape, answers against those that are due. */
final class Check {
    private static int checks = 0;
    private static int wrong = 0;

    private Check() {
    }

    static void same(String what, long got, long due) {
        checks++;
        if (got != due) {
            wrong++;
            if (wrong <= 40) {
                System.out.println(what + " answered " + got + ", due is " + due);
            }
        }
    }

    static void same(String what, boolean got, boolean due) {
        same(what, got ? 1 : 0, due ? 1 : 0);
    }

    static boolean isRight() {
        return wrong == 0;
    }

    static void tape(LeadNames x, String text) {
        tape(x, text.getBytes(StandardCharsets.ISO_8859_1));
    }

    /** The tape must be empty, as it is behind land() and on(). */
    static void tape(LeadNames x, byte[] bytes) {
        int fed = 0;
        for (int i = 0; i < bytes.length; i += 20) {
            fed = x.feed(four(bytes, i), four(bytes, i + 4), four(bytes, i + 8),
                    four(bytes, i + 12), four(bytes, i + 16));
        }
        same("the tape's length", fed, (bytes.length + 19) / 20 * 20);
        same("end", x.end(bytes.length), true);
    }

    private static int four(byte[] bytes, int at) {
        int value = 0;
        for (int i = at; i < at + 4; i++) {
            value = value << 8 | (i < bytes.length ? bytes[i] & 255 : 0);
        }
        return value;
    }

    static LeadNames landed(String text) {
        LeadNames x = new LeadNames();
        tape(x, text);
        x.land();
        same("fault of " + text, x.fault(0), 0);
        return x;
    }

    static byte[] image(LeadNames x) {
        byte[] bytes = new byte[x.image()];
        for (int i = 0; i < bytes.length; i++) {
            bytes[i] = (byte) x.octet(i);
        }
        return bytes;
    }

    /** Puts the last byte that is due behind the others. */
    static byte[] sealed(byte[] bytes) {
        int c = 41;
        for (int i = 0; i + 1 < bytes.length; i++) {
            c = (3 * c + (bytes[i] & 255)) % 239;
        }
        bytes[bytes.length - 1] = (byte) c;
        return bytes;
    }

    static void finish() {
        System.out.println(checks + " answers looked at, " + wrong + " not as due");
        if (wrong != 0) {
            System.exit(1);
        }
    }
}
