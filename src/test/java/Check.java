import java.io.IOException;
import java.nio.charset.StandardCharsets;
import java.nio.file.Files;
import java.nio.file.Path;
import java.util.ArrayList;
import java.util.List;
import java.util.stream.Stream;

/** What all tests use: texts onto the tape, answers against those that are due. */
final class Check {
    private static int checks = 0;
    private static int wrong = 0;
    private static String about = "";

    private Check() {
    }

    /** What the checks that follow are about; it stands ahead of each answer that is not as due. */
    static void about(String what) {
        about = what;
    }

    static int checks() {
        return checks;
    }

    static void same(String what, long got, long due) {
        checks++;
        if (got != due) {
            wrong++;
            if (wrong <= 40) {
                System.out.println(about + what + " answered " + got + ", due is " + due);
            }
        }
    }

    static void same(String what, String got, String due) {
        same(what + (got.equals(due) ? "" : " (" + got + " and " + due + ")"),
                got.equals(due), true);
    }

    static void same(String what, boolean got, boolean due) {
        same(what, got ? 1 : 0, due ? 1 : 0);
    }

    static boolean isRight() {
        return wrong == 0;
    }

    static void tape(LeadNames x, String text) {
        tape(x, text.getBytes(StandardCharsets.ISO_8859_1));
    }

    /** The tape must be empty, as it is behind land() and on(). */
    static void tape(LeadNames x, byte[] bytes) {
        int fed = 0;
        for (int i = 0; i < bytes.length; i += 20) {
            fed = x.feed(four(bytes, i), four(bytes, i + 4), four(bytes, i + 8),
                    four(bytes, i + 12), four(bytes, i + 16));
        }
        same("the tape's length", fed, (bytes.length + 19) / 20 * 20);
        same("end", x.end(bytes.length), true);
    }

    private static int four(byte[] bytes, int at) {
        int value = 0;
        for (int i = at; i < at + 4; i++) {
            value = value << 8 | (i < bytes.length ? bytes[i] & 255 : 0);
        }
        return value;
    }

    static LeadNames landed(String text) {
        LeadNames x = new LeadNames();
        tape(x, text);
        x.land();
        same("fault of " + text, x.fault(0), 0);
        return x;
    }

    /** A land without a fault. */
    static void good(String text, int statements) {
        LeadNames x = new LeadNames();
        tape(x, text);
        same("land " + text, x.land(), statements);
        same("fault of " + text, x.fault(0), 0);
        same("place of " + text, x.fault(1), -1);
    }

    /** A land with a fault: its place is where the @ stands. */
    static void bad(String marked, int fault) {
        int place = marked.indexOf('@');
        LeadNames x = new LeadNames();
        tape(x, marked.substring(0, place) + marked.substring(place + 1));
        same("land " + marked, x.land(), -1);
        same("fault of " + marked, x.fault(0), fault);
        same("place of " + marked, x.fault(1), place);
    }

    static byte[] image(LeadNames x) {
        byte[] bytes = new byte[x.image()];
        for (int i = 0; i < bytes.length; i++) {
            bytes[i] = (byte) x.octet(i);
        }
        return bytes;
    }

    /** Puts the last byte that is due behind the others. */
    static byte[] sealed(byte[] bytes) {
        int c = 41;
        for (int i = 0; i + 1 < bytes.length; i++) {
            c = (3 * c + (bytes[i] & 255)) % 239;
        }
        bytes[bytes.length - 1] = (byte) c;
        return bytes;
    }

    /** A directory of a test goes, with all that is in it. */
    static void remove(Path directory) throws IOException {
        List<Path> paths = new ArrayList<>();
        try (Stream<Path> all = Files.walk(directory)) {
            all.forEach(paths::add);
        }
        for (int i = paths.size() - 1; i >= 0; i--) {
            Files.delete(paths.get(i));
        }
    }

    static void finish() {
        System.out.println(checks + " answers looked at, " + wrong + " not as due");
        if (wrong != 0) {
            System.exit(1);
        }
    }
}
