import java.util.Random;

/** Calls of any kind with any numbers in any order: none throws, the lead stays, images go back. */
public final class FuzzTest {
    private static final int OBJECTS = 1500;
    private static final int CALLS = 512;
    private static final String[] BITS = {"letter", "person", "born", "lifts", "dents", "title",
        "honour", "has", "heap", "age", "bears", "bridge", "year", "when", "or", "and", "not", "all",
        "old", "force", "names", "min", "max", ";", ";", ";", "<", ">", "=", "+", "-", "*", "/",
        "%", "(", ")", "[", "]", ",", "a", "b", "ada", "ben", "tea", "0", "7", "99", "9999", "\n"};
    private static final String LAND = "letter a 5;person ada born 10 lifts 60 dents 10;"
            + "person ben born 20 lifts 100 dents 20;person cy born 90 lifts 7 dents 30;"
            + "title ab honour 5;title ba honour 6;title abc honour 9;title ccc honour 30;"
            + "has ada ab;has ben abc;heap a 9;heap b 9;heap c 9;age 3 50;age 60 200;"
            + "bears old%7-honour when not [names>2 or person=1];bridge sill 40;year 50;";

    private final Random random;
    private final LeadNames x = new LeadNames();

    private FuzzTest(long seed) {
        random = new Random(seed);
    }

    public static void main(String[] args) {
        for (int i = 0; i < OBJECTS; i++) {
            new FuzzTest(i).run();
        }
        Check.finish();
    }

    private void run() {
        int calls = 0;
        if (random.nextInt(10) > 0) {
            Check.tape(x, random.nextInt(6) == 0 ? scramble() : LAND);
            x.land();
            calls = 90;
        }
        for (; calls < CALLS; calls++) {
            int all = x.lead(4);
            int kind = random.nextInt(40);
            call(kind);
            if (kind > 4) {
                Check.same("all the lead behind call " + kind, x.lead(4), all);
            }
        }
    }

    private String scramble() {
        StringBuilder text = new StringBuilder();
        if (random.nextBoolean()) {
            text.append(LAND);
            for (int i = random.nextInt(3); i >= 0; i--) {
                int at = random.nextInt(text.length());
                String bit = BITS[random.nextInt(BITS.length)];
                text.replace(at, Math.min(text.length(), at + random.nextInt(3)), bit);
            }
            return text.toString();
        }
        while (text.length() < 300) {
            text.append(BITS[random.nextInt(BITS.length)]).append(random.nextInt(3) > 0 ? " " : "");
        }
        return text.toString();
    }

    private int any() {
        switch (random.nextInt(8)) {
            case 0: return random.nextInt();
            case 1: return random.nextBoolean() ? Integer.MIN_VALUE : Integer.MAX_VALUE;
            case 2: return 97 + random.nextInt(4);
            case 3: return random.nextInt(1200) - 100;
            default: return random.nextInt(6) - 1;
        }
    }

    private void call(int kind) {
        int a = any();
        int b = any();
        int c = any();
        switch (kind) {
            case 0: x.feed(a, b, c, any(), any()); break;
            case 1: x.end(a); break;
            case 2: if (random.nextInt(12) == 0) { x.land(); } break;
            case 3: if (random.nextInt(12) == 0) { x.on(); } break;
            case 4: if (random.nextInt(4) == 0) { backAndForth(); } break;
            case 5: x.fault(a); x.has(b); x.status(c); x.octet(random.nextInt(700) - 50); break;
            case 6: x.letter(a, b, c); x.ounces(a); break;
            case 7: x.title(a, b); x.person(b, random.nextInt(11) - 1); x.loose(a, c); break;
            case 8: case 9: case 10: case 11: x.gain(a, b); break;
            case 12: case 13: x.shed(a, b); break;
            case 14: case 15: case 16: x.steal(a, b, 97 + random.nextInt(4)); break;
            case 17: case 18: x.trade(a, 97 + random.nextInt(4), b, 97 + random.nextInt(4)); break;
            case 19: case 20: case 21: x.lend(a, b, c); break;
            case 22: x.giveBack(a); break;
            case 23: x.loan(a, b); break;
            case 24: x.drown(a); break;
            case 25: case 26: x.melt(a, b); break;
            case 27: x.heir(a, b); break;
            case 28: x.years(a); break;
            case 29: case 30: x.feast(); break;
            case 31: x.seed(a); break;
            case 32: x.signed(a, b); x.span(a, b); x.moved(a, b); break;
            case 33: x.share(a, b, c); break;
            case 34: x.bullets(a, b); x.bullets(random.nextInt(200), 0); break;
            case 35: x.row(a, b, c); break;
            case 36: x.goings(a, b); break;
            case 37: x.common(a, b); break;
            case 38: x.lead(a); break;
            default: x.image(); break;
        }
    }

    private void backAndForth() {
        int all = x.lead(4);
        x.end(0);
        Check.tape(x, Check.image(x));
        Check.same("its own image", x.on(), true);
        Check.same("all the lead", x.lead(4), all);
    }
}
