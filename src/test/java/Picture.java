import java.io.ByteArrayOutputStream;

/** An image, made byte by byte from what it tells: a short way into any state, and out of it. */
final class Picture {
    int year;
    int river;
    int[] titles;
    int[][] loose;
    int[] heap = new int[26];
    int[] bullets = {};

    Picture(int persons) {
        titles = new int[persons];
        loose = new int[persons][26];
    }

    /** So many persons, in a year, with titles (bits) each. */
    static Picture of(int year, int... titles) {
        Picture picture = new Picture(titles.length);
        picture.year = year;
        picture.titles = titles;
        return picture;
    }

    /** Loose letters of a person, or (-1) of the heap, as a text. */
    Picture with(int person, String letters) {
        for (char c : letters.toCharArray()) {
            (person < 0 ? heap : loose[person])[c - 'a']++;
        }
        return this;
    }

    Picture shot(int... ounces) {
        bullets = ounces;
        return this;
    }

    Picture drowned(int ounces) {
        river = ounces;
        return this;
    }

    byte[] bytes() {
        ByteArrayOutputStream out = new ByteArrayOutputStream();
        put(out, year, 2);
        for (int p = 0; p < titles.length; p++) {
            put(out, titles[p], 2);
            put(out, loose[p]);
        }
        put(out, heap);
        put(out, river, 3);
        put(out, bullets.length, 1);
        for (int ounces : bullets) {
            put(out, ounces, 2);
        }
        out.write(0);
        return Check.sealed(out.toByteArray());
    }

    private static void put(ByteArrayOutputStream out, int[] letters) {
        for (int n : letters) {
            put(out, n, 2);
        }
    }

    private static void put(ByteArrayOutputStream out, int number, int width) {
        for (int i = width - 1; i >= 0; i--) {
            out.write(number >> 8 * i);
        }
    }

    /** The object of a land in the state that this tells. */
    LeadNames in(String land) {
        LeadNames x = Check.landed(land);
        Check.tape(x, bytes());
        Check.same("on", x.on(), true);
        return x;
    }

    /** Whether an object takes it. */
    boolean fits(LeadNames x) {
        Check.tape(x, bytes());
        return x.on();
    }
}
