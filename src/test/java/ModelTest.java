import java.util.ArrayList;
import java.util.Arrays;
import java.util.List;
import java.util.Random;
import java.util.TreeMap;
import java.util.function.ToIntFunction;

/** Random lands and random acts: the class against the model, every question asked of both. */
public final class ModelTest {
    private static final int RUNS = 400;
    private static final int ACTS = 120;

    /** A piece of a law: its text, and what it comes to. */
    private record Piece(String text, ToIntFunction<int[]> value) { }

    private final Random random;
    private final Model model = new Model();
    private final StringBuilder text = new StringBuilder();
    private LeadNames x;
    private int statements;
    private String trail = "";

    private ModelTest(long seed) {
        random = new Random(seed);
    }

    public static void main(String[] args) {
        for (int run = 0; run < RUNS && Check.isRight(); run++) {
            ModelTest test = new ModelTest(run);
            test.makeLand();
            test.play(run);
        }
        Check.finish();
    }

    private int upTo(int most) {
        return random.nextInt(most + 1);
    }

    private void makeLand() {
        List<String> names = new ArrayList<>();
        String alphabet = random.nextBoolean() ? "ab" : "aenrst";
        int persons = upTo(8);
        int titles = upTo(12);
        for (int i = upTo(4); i > 0; i--) {
            int letter = alphabet.charAt(upTo(alphabet.length() - 1));
            model.ounces[letter - 97] = 1 + upTo(20);
            state("letter " + (char) letter + " " + model.ounces[letter - 97]);
        }
        for (int i = 0; i < persons; i++) {
            addPerson("p" + (char) ('a' + i));
        }
        for (int i = 0; i < titles; i++) {
            addTitle(names, alphabet);
        }
        for (int i = 0; i < 8 && persons > 0 && titles > 0; i++) {
            int p = upTo(persons - 1);
            int t = upTo(titles - 1);
            if (!model.bears(p, t)) {
                model.coats.get(p).put(t, 0);
                state("has " + model.persons.get(p).name() + " " + model.titles.get(t).name());
            }
        }
        for (int i = 0; i < alphabet.length(); i++) {
            int count = upTo(30);
            model.heap[alphabet.charAt(i) - 97] = count;
            state("heap " + alphabet.charAt(i) + " " + count);
        }
        addAges();
        for (int i = upTo(3); i > 0; i--) {
            Piece sum = sum(0);
            Piece test = test(0);
            if (text.length() + sum.text.length() + test.text.length() < 1450) {
                state("bears " + sum.text + " when " + test.text);
                model.laws.add(new Model.Law(sum.value, test.value));
            }
        }
        for (int i = 0; i < 3; i++) {
            int holds = upTo(random.nextBoolean() ? 100 : 400);
            model.bridges.add(new Model.Bridge("br" + (char) ('a' + i), holds));
            state("bridge br" + (char) ('a' + i) + " " + holds);
        }
        model.year = upTo(99);
        state("year " + model.year);
        model.forget();
    }

    private void addPerson(String name) {
        Model.Who who = new Model.Who(name, upTo(99), upTo(random.nextBoolean() ? 100 : 400),
                upTo(100));
        model.persons.add(who);
        model.coats.add(new TreeMap<>());
        model.loose.add(new int[26]);
        state("person " + name + " born " + who.born() + " lifts " + who.lifts() + " dents "
                + who.dents());
    }

    private void addTitle(List<String> names, String alphabet) {
        String name;
        do {
            StringBuilder b = new StringBuilder();
            for (int i = 1 + upTo(5); i > 0; i--) {
                b.append(alphabet.charAt(upTo(alphabet.length() - 1)));
            }
            name = b.toString();
        } while (names.contains(name));
        names.add(name);
        int honour = upTo(random.nextInt(3) == 0 ? 2 : 40);
        model.titles.add(new Model.Title(name, honour));
        state("title " + name + " honour " + honour);
    }

    private void addAges() {
        int from = upTo(20);
        for (int i = upTo(5); i > 0 && from <= 99; i--) {
            int parts = upTo(200);
            model.ages.put(from, parts);
            state("age " + from + " " + parts);
            from += 1 + upTo(30);
        }
    }

    private void state(String statement) {
        text.append(statement).append(random.nextInt(4) == 0 ? " ;\n" : ";");
        statements++;
    }

    private String gap() {
        return random.nextInt(4) == 0 ? " " : "";
    }

    private static int held(long value) {
        return (int) Math.max(-1_000_000, Math.min(1_000_000, value));
    }

    private Piece sum(int open) {
        Piece left = product(open);
        for (int i = upTo(2); i > 0; i--) {
            Piece a = left;
            Piece b = product(open);
            boolean plus = random.nextBoolean();
            left = new Piece(a.text + gap() + (plus ? "+" : "-") + gap() + b.text, plus
                    ? f -> held((long) a.value.applyAsInt(f) + b.value.applyAsInt(f))
                    : f -> held((long) a.value.applyAsInt(f) - b.value.applyAsInt(f)));
        }
        return left;
    }

    private Piece product(int open) {
        Piece left = part(open);
        for (int i = random.nextInt(3) == 0 ? 1 + upTo(1) : 0; i > 0; i--) {
            Piece a = left;
            Piece b = part(open);
            int kind = upTo(2);
            ToIntFunction<int[]> value = f -> {
                int m = a.value.applyAsInt(f);
                int n = b.value.applyAsInt(f);
                if (kind == 0) {
                    return held((long) m * n);
                }
                int floor = n == 0 ? 0 : (int) Math.floor((double) m / n);
                return n == 0 ? 0 : kind == 1 ? floor : m - floor * n;
            };
            left = new Piece(a.text + gap() + "*/%".charAt(kind) + gap() + b.text, value);
        }
        return left;
    }

    private Piece part(int open) {
        int kind = upTo(open < 4 ? 9 : 6);
        String[] own = {"person", "old", "force", "honour", "names"};
        if (kind < 5) {
            return new Piece(own[kind], f -> f[kind]);
        }
        if (kind < 7) {
            int n = upTo(random.nextInt(5) == 0 ? 9999 : 30);
            return new Piece("" + n, f -> n);
        }
        Piece a = sum(open + 1);
        if (kind == 7) {
            return new Piece("(" + gap() + a.text + gap() + ")", a.value);
        }
        Piece b = sum(open + 1);
        return kind == 8
                ? new Piece("min" + gap() + "(" + a.text + "," + gap() + b.text + ")",
                        f -> Math.min(a.value.applyAsInt(f), b.value.applyAsInt(f)))
                : new Piece("max(" + a.text + gap() + "," + b.text + ")",
                        f -> Math.max(a.value.applyAsInt(f), b.value.applyAsInt(f)));
    }

    private Piece test(int open) {
        Piece left = both(open);
        for (int i = upTo(1); i > 0; i--) {
            Piece a = left;
            Piece b = both(open);
            left = new Piece(a.text + " or " + b.text,
                    f -> a.value.applyAsInt(f) + b.value.applyAsInt(f) > 0 ? 1 : 0);
        }
        return left;
    }

    private Piece both(int open) {
        Piece left = fact(open);
        for (int i = upTo(1); i > 0; i--) {
            Piece a = left;
            Piece b = fact(open);
            left = new Piece(a.text + " and " + b.text,
                    f -> a.value.applyAsInt(f) * b.value.applyAsInt(f));
        }
        return left;
    }

    private Piece fact(int open) {
        int kind = upTo(5);
        if (kind == 0) {
            Piece a = fact(open);
            return new Piece("not " + a.text, f -> 1 - a.value.applyAsInt(f));
        }
        if (kind == 1 && open < 3) {
            Piece a = test(open + 1);
            return new Piece("[" + gap() + a.text + gap() + "]", a.value);
        }
        if (kind == 2) {
            return new Piece("all", f -> 1);
        }
        Piece a = sum(open + 1);
        Piece b = sum(open + 1);
        int sign = upTo(2);
        return new Piece(a.text + gap() + "<>=".charAt(sign) + gap() + b.text, f -> {
            int by = Integer.compare(a.value.applyAsInt(f), b.value.applyAsInt(f));
            return by == new int[] {-1, 1, 0}[sign] ? 1 : 0;
        });
    }

    private void play(int run) {
        if (text.length() > 1600) {
            return;
        }
        x = new LeadNames();
        Check.tape(x, text.toString());
        Check.same("run " + run + " land " + text, x.land(), statements);
        askAll(run);
        for (int i = 0; i < ACTS && Check.isRight(); i++) {
            act(run);
            if (random.nextInt(4) == 0) {
                askAll(run);
            }
        }
        askAll(run);
        if (!Check.isRight()) {
            System.out.println(text + "\n" + trail);
        }
    }

    private int letter() {
        String all = "aabbenrstz";
        return random.nextInt(20) == 0 ? upTo(130) : all.charAt(upTo(all.length() - 1));
    }

    private void act(int run) {
        int a = upTo(model.persons.size() + 1) - 1;
        int b = upTo(model.persons.size() + 1) - 1;
        int t = upTo(model.titles.size() + 1) - 1;
        int k = upTo(4) - 1;
        int letter = letter();
        int other = letter();
        int years = random.nextInt(6) == 0 ? upTo(61) : upTo(4);
        int kind = upTo(14);
        String name = "run " + run + ": act " + kind + " of " + a + ", " + b + ", " + t + ", " + k
                + ", " + letter + ", " + other + ", " + years;
        trail += name + "\n";
        switch (kind) {
            case 0: case 11: Check.same(name, x.gain(a, t), model.gain(a, t)); break;
            case 1: Check.same(name, x.shed(a, t), model.shed(a, t)); break;
            case 2: case 12: Check.same(name, x.steal(a, b, letter), model.steal(a, b, letter));
                break;
            case 3: case 13: Check.same(name, x.trade(a, letter, b, other),
                    model.trade(a, letter, b, other)); break;
            case 4: case 14: Check.same(name, x.lend(a, b, t), model.lend(a, b, t)); break;
            case 5: Check.same(name, x.giveBack(k), model.giveBack(k)); break;
            case 6: Check.same(name, random.nextInt(3) > 0 || x.drown(a) == model.drown(a), true);
                break;
            case 7: Check.same(name, x.melt(a, t), model.melt(a, t)); break;
            case 8: Check.same(name, x.heir(a, b), model.heir(a, b)); break;
            case 9: Check.same(name, x.years(years), model.years(years)); break;
            default: Check.same(name, x.feast(), model.feast()); break;
        }
        if (random.nextInt(40) == 0) {
            int seed = random.nextInt() & Integer.MAX_VALUE;
            Check.same("seed", x.seed(seed), true);
            model.seed = seed;
        }
        if (random.nextInt(60) == 0) {
            Check.tape(x, model.image());
            Check.same("on", x.on(), true);
            model.forget();
        }
    }

    private void askAll(int run) {
        String at = "run " + run + ": ";
        for (int p = 0; p < model.persons.size(); p++) {
            askPerson(at, p);
        }
        for (int t = 0; t < model.titles.size(); t++) {
            askTitle(at, t);
        }
        for (int what = 0; what <= 4; what++) {
            Check.same(at + "lead " + what, x.lead(what), model.lead(what));
        }
        for (int letter = 97; letter <= 122; letter++) {
            Check.same(at + "heap", x.loose(-1, letter), model.heap[letter - 97]);
            Check.same(at + "ounces", x.ounces(letter), model.ounces[letter - 97]);
        }
        int[] due = {model.persons.size(), model.titles.size(), model.ages.size(),
            model.laws.size(), model.bridges.size(), model.year, model.loans.size(),
            model.bullets.size(), model.moves.size()};
        for (int what = 0; what < due.length; what++) {
            Check.same(at + "has " + what, x.has(what), due[what]);
        }
        askLists(at);
        int[] wanted = {0, upTo(100), upTo(600)};
        for (int ounces : wanted) {
            int[] sets = model.inBullets(ounces);
            Check.same(at + "bullets 0", x.bullets(ounces, 0), sets[0]);
            Check.same(at + "bullets 1", x.bullets(ounces, 1), sets[1]);
        }
        for (int bridge = 0; bridge < model.bridges.size(); bridge++) {
            int set = upTo((1 << model.persons.size()) - 1);
            Check.same(at + "goings " + set, x.goings(bridge, set), model.goings(bridge, set));
        }
        byte[] image = Check.image(x);
        Check.same(at + "image", Arrays.equals(image, model.image()), true);
    }

    private void askPerson(String at, int p) {
        int best = model.best((1 << model.titles.size()) - 1, model.limit(p));
        int[] due = {model.age(p), model.limit(p), model.load(p), model.honourOf(model.bits(p)),
            model.bits(p), Arrays.stream(model.loose.get(p)).sum(), best, model.honourOf(best),
            model.called(p), -1};
        for (int what = 0; what < due.length; what++) {
            Check.same(at + "person " + p + ", " + what, x.person(p, what), due[what]);
        }
        for (int letter = 97; letter <= 122; letter++) {
            Check.same(at + "loose", x.loose(p, letter), model.loose.get(p)[letter - 97]);
        }
        for (int other = 0; other < model.persons.size(); other++) {
            Check.same(at + "common " + p + ", " + other, x.common(p, other),
                    p == other ? -1 : model.common(p, other));
        }
        int n = upTo(40);
        int k = upTo(n);
        Check.same(at + "share " + p + ", " + n + ", " + k, x.share(p, n, k),
                model.share(p, n, k));
    }

    private void askTitle(String at, int t) {
        int bearers = 0;
        for (int p = 0; p < model.persons.size(); p++) {
            bearers |= model.bears(p, t) ? 1 << p : 0;
        }
        String name = model.titles.get(t).name();
        int[] due = {model.weight(t), model.titles.get(t).honour(), name.length(), bearers, -1};
        for (int what = 0; what < due.length; what++) {
            Check.same(at + "title " + t + ", " + what, x.title(t, what), due[what]);
        }
        for (int back = 0; back <= 20; back += 4) {
            int then = Math.max(0, model.year + 2 - back);
            Check.same(at + "signed " + t + ", " + then, x.signed(t, then),
                    then > 999 ? -1 : model.signed(t, then));
        }
        int other = upTo(model.titles.size() - 1);
        if (other != t) {
            String row = model.row(t, other);
            int shared = name.length() + model.titles.get(other).name().length() - row.length();
            Check.same(at + "row 0", x.row(t, other, 0), row.length());
            Check.same(at + "row 1", x.row(t, other, 1), model.weight(row));
            Check.same(at + "row 2", x.row(t, other, 2), shared);
        }
    }

    private void askLists(String at) {
        for (int k = 0; k <= model.loans.size(); k++) {
            for (int what = 0; what <= 4; what++) {
                int due = k == model.loans.size() || what == 4 ? -1
                        : what == 3 ? (model.canGiveBack(k) ? 1 : 0) : model.loans.get(k)[what];
                Check.same(at + "loan " + k + ", " + what, x.loan(k, what), due);
            }
        }
        for (int k = 0; k <= model.moves.size(); k++) {
            for (int what = 0; what <= 5; what++) {
                int due = k == model.moves.size() || what == 5 ? -1 : model.moves.get(k)[what];
                Check.same(at + "moved " + k + ", " + what, x.moved(k, what), due);
            }
        }
        for (int k = 0; k <= model.spans.size(); k++) {
            for (int what = 0; what <= 4; what++) {
                int due = k == model.spans.size() || what == 4 ? -1 : model.spans.get(k)[what];
                Check.same(at + "span " + k + ", " + what, x.span(k, what), due);
            }
        }
    }
}
