import java.util.Arrays;

/** Promises 34 to 36: images, their bytes, and the way back. */
public final class ImageTest {
    private static final String LAND = "letter a 99;letter b 7;person p born 0 lifts 500 dents 0;"
            + "person q born 0 lifts 500 dents 0;title ab honour 5;title ba honour 6;"
            + "title c honour 7;has p ab;has q ba;has q c;heap a 3;heap z 99;year 40;";
    private static final int HEAP = 2 + 2 * 54;
    private static final int RIVER = HEAP + 52;

    public static void main(String[] args) {
        bytes();
        wayBack();
        whatGoes();
        refused();
        limits();
        otherLand();
        Check.finish();
    }

    private static LeadNames busy() {
        LeadNames x = Check.landed(LAND);
        x.years(3);
        x.steal(0, 1, 'b');
        x.melt(1, 2);
        x.drown(1);
        x.gain(1, 2);
        return x;
    }

    private static void bytes() {
        LeadNames x = busy();
        Check.same("none ahead", x.octet(0), -1);
        Check.same("length", x.image(), RIVER + 3 + 1 + 0 + 2 + 1);
        byte[] due = new byte[RIVER + 7];
        due[1] = 43;
        due[3] = 1;
        due[2 + 2 + 2 * 1 + 1] = 1;
        due[HEAP + 1] = 3;
        due[HEAP + 51] = 99;
        due[RIVER + 2] = 99;
        due[RIVER + 3] = 1;
        due[RIVER + 5] = 10;
        // q could not gain c again: no c in the heap.
        Check.sealed(due);
        for (int k = 0; k < due.length; k++) {
            Check.same("octet " + k, x.octet(k), due[k] & 255);
        }
        Check.same("behind", x.octet(due.length), -1);
        Check.same("below", x.octet(-1), -1);
        x.years(2);
        Check.same("the latest image", x.octet(1), 43);
        Check.tape(x, "");
        x.land();
        Check.same("also behind a land", x.octet(1), 43);
        Check.same("a new image", x.image(), 59);
        Check.same("its bytes alone", x.octet(59), -1);
    }

    private static void wayBack() {
        LeadNames x = busy();
        byte[] image = Check.image(x);
        LeadNames y = Check.landed(LAND);
        Check.tape(y, image);
        Check.same("on", y.on(), true);
        Check.same("the tape went", y.end(1), false);
        Check.same("year", y.has(5), 43);
        Check.same("river", y.lead(2), x.lead(2));
        Check.same("bullets", y.has(7), 1);
        Check.same("a set of them", y.bullets(10, 1), 1);
        for (int p = 0; p < 2; p++) {
            for (int what = 0; what <= 8; what++) {
                Check.same("person", y.person(p, what), x.person(p, what));
            }
        }
        Check.same("image again", Arrays.equals(Check.image(y), image), true);
    }

    private static void whatGoes() {
        LeadNames x = Check.landed(LAND);
        x.lend(1, 0, 2);
        x.years(2);
        byte[] image = Check.image(x);
        x.years(3);
        x.seed(77);
        x.giveBack(-1);
        Check.tape(x, image);
        Check.same("on", x.on(), true);
        Check.same("year", x.has(5), 42);
        Check.same("no loans", x.has(6), 0);
        Check.same("no moves", x.has(8), 0);
        Check.same("no spans", x.span(0, 0), -1);
        Check.same("borne from the year on", x.signed(2, 42), 1);
        Check.same("not ahead", x.signed(2, 41), 0);
        Check.same("refusals stay", x.status(3), 1);
        Check.same("no refusal", x.status(5), 0);
        LeadNames y = Check.landed(LAND);
        y.seed(77);
        Check.tape(y, image);
        y.on();
        Check.same("the seed stays", x.feast(), y.feast());
        Check.same("the seed stays", Arrays.equals(Check.image(x), Check.image(y)), true);
    }

    private static void bad(String what, byte[] image) {
        LeadNames x = busy();
        byte[] ahead = Check.image(x);
        Check.tape(x, image);
        Check.same(what, x.on(), false);
        Check.same(what + ": refusals", x.status(5), 1);
        Check.same(what + ": the tape went", x.end(1), false);
        Check.same(what + ": all stays", Arrays.equals(Check.image(x), ahead), true);
        Check.same(what + ": moves stay", x.has(8), 3);
    }

    private static void good(String what, byte[] image) {
        LeadNames x = busy();
        Check.tape(x, image);
        Check.same(what, x.on(), true);
        Check.same(what + ": image", Arrays.equals(Check.image(x), image), true);
    }

    private static byte[] with(int at, int... values) {
        byte[] image = Check.image(busy());
        for (int i = 0; i < values.length; i++) {
            image[at + i] = (byte) values[i];
        }
        return Check.sealed(image);
    }

    private static void refused() {
        byte[] image = Check.image(busy());
        bad("nothing", new byte[0]);
        bad("too short", Arrays.copyOf(image, image.length - 1));
        bad("too long", Check.sealed(Arrays.copyOf(image, image.length + 1)));
        bad("a few bytes", new byte[20]);
        byte[] wrong = image.clone();
        wrong[image.length - 1] ^= 1;
        bad("the last byte", wrong);
        wrong = image.clone();
        wrong[20] ^= 1;
        bad("another byte", wrong);
        wrong = image.clone();
        wrong[image.length - 1] = (byte) ((wrong[image.length - 1] & 255) + 239);
        if ((wrong[image.length - 1] & 255) != (image[image.length - 1] & 255)) {
            bad("not below 239", wrong);
        }
        good("year 999", with(0, 3, 231));
        bad("year 1000", with(0, 3, 232));
        good("all titles", with(2, 0, 7));
        bad("a title that is not there", with(2, 0, 8));
        bad("a title far above", with(2, 128, 0));
        good("all titles of the other one", with(2 + 54, 0, 7));
        bad("a title of the other one that is not there", with(2 + 54, 0, 8));
        bad("bullets that lack", with(RIVER + 3, 2));
        bad("a bullet too many", with(RIVER + 3, 0));
        bad("a bullet of 0", with(RIVER + 4, 0, 0));
        good("a bullet of 1", with(RIVER + 4, 0, 1));
        good("a bullet of 65535", with(RIVER + 4, 255, 255));
        byte[] many = bullets(30);
        good("30 bullets", many);
        bad("31 bullets", bullets(31));
        bad("one person too few", Check.image(Check.landed("person p born 0 lifts 0 dents 0;")));
    }

    private static byte[] bullets(int n) {
        byte[] image = Arrays.copyOf(Check.image(busy()), RIVER + 4 + 2 * n + 1);
        image[RIVER + 3] = (byte) n;
        for (int i = 0; i < n; i++) {
            image[RIVER + 4 + 2 * i] = 0;
            image[RIVER + 5 + 2 * i] = 1;
        }
        return Check.sealed(image);
    }

    private static void limits() {
        // ab (2 letters) in p's coat, one b loose, 3 a and 99 z in the heap: 105 letters.
        int more = 9999 - 105 + 99;
        good("9999 letters", with(HEAP + 50, more >> 8, more & 255));
        more++;
        bad("10000 letters", with(HEAP + 50, more >> 8, more & 255));
        bad("a pile of 65535", with(HEAP + 50, 255, 255));
        LeadNames x = busy();
        int river = 9999999 - (x.lead(4) - x.lead(2));
        good("9999999 ounces", with(RIVER, river >> 16, river >> 8 & 255, river & 255));
        river++;
        bad("10000000 ounces", with(RIVER, river >> 16, river >> 8 & 255, river & 255));
        byte[] heavy = bullets(3);
        heavy[RIVER + 4] = 2;
        heavy[RIVER + 6] = 3;
        heavy[RIVER + 8] = 4;
        river = 9999999 - (x.lead(4) - x.lead(2) - x.lead(3)) - 3 - 256 * 9;
        putRiver(heavy, river);
        good("9999999 ounces with bullets", Check.sealed(heavy));
        putRiver(heavy, river + 1);
        bad("10000000 ounces with bullets", Check.sealed(heavy));
        byte[] most = Check.image(busy());
        Arrays.fill(most, 4, 2 + 54, (byte) 255);
        Arrays.fill(most, HEAP, RIVER + 3, (byte) 255);
        bad("more than all", Check.sealed(most));
    }

    private static void putRiver(byte[] image, int ounces) {
        image[RIVER] = (byte) (ounces >> 16);
        image[RIVER + 1] = (byte) (ounces >> 8);
        image[RIVER + 2] = (byte) ounces;
    }

    private static void otherLand() {
        // Another land with as many persons and titles enough takes it.
        LeadNames x = Check.landed("person v born 0 lifts 0 dents 0;person w born 0 lifts 0 dents 0;"
                + "title q honour 5;");
        Check.tape(x, Check.image(busy()));
        Check.same("on", x.on(), true);
        Check.same("its title", x.person(0, 4), 1);
        // Without a land there are no persons: an image of a heap.
        LeadNames y = new LeadNames();
        byte[] image = new byte[59];
        image[3] = 5;
        Check.tape(y, Check.sealed(image));
        Check.same("on", y.on(), true);
        Check.same("heap", y.loose(-1, 97), 5);
        Check.same("lead", y.lead(4), 50);
    }
}
