import java.util.ArrayList;
import java.util.Arrays;
import java.util.List;
import java.util.TreeMap;
import java.util.function.ToIntFunction;

/**
 * A second telling of the document, as plain as can be: texts and lists, every set tried. The test
 * builds it from the same facts as the land's text; it reads no text itself.
 */
final class Model {
    record Who(String name, int born, int lifts, int dents) { }
    record Title(String name, int honour) { }
    record Law(ToIntFunction<int[]> sum, ToIntFunction<int[]> test) { }
    record Bridge(String name, int holds) { }

    final List<Who> persons = new ArrayList<>();
    final List<Title> titles = new ArrayList<>();
    final TreeMap<Integer, Integer> ages = new TreeMap<>();
    final List<Law> laws = new ArrayList<>();
    final List<Bridge> bridges = new ArrayList<>();
    final int[] ounces = new int[26];
    final int[] heap = new int[26];
    final List<TreeMap<Integer, Integer>> coats = new ArrayList<>(); // title to year it came
    final List<int[]> loose = new ArrayList<>();
    final List<int[]> loans = new ArrayList<>();
    final List<Integer> bullets = new ArrayList<>();
    final List<int[]> moves = new ArrayList<>();
    final List<int[]> spans = new ArrayList<>();
    int year;
    int river;
    long seed = 1;

    Model() {
        Arrays.fill(ounces, 10);
    }

    int weight(String name) {
        return name.chars().map(c -> ounces[c - 'a']).sum();
    }

    int weight(int title) {
        return weight(titles.get(title).name);
    }

    int bits(int person) {
        return coats.get(person).keySet().stream().mapToInt(t -> 1 << t).sum();
    }

    int honourOf(int bits) {
        int sum = 0;
        for (int t = 0; t < titles.size(); t++) {
            sum += (bits >> t & 1) * titles.get(t).honour;
        }
        return sum;
    }

    int weightOf(int bits) {
        int sum = 0;
        for (int t = 0; t < titles.size(); t++) {
            sum += (bits >> t & 1) * weight(t);
        }
        return sum;
    }

    int pile(int[] letters) {
        int sum = 0;
        for (int i = 0; i < 26; i++) {
            sum += letters[i] * ounces[i];
        }
        return sum;
    }

    int load(int p) {
        return weightOf(bits(p)) + pile(loose.get(p));
    }

    int age(int p) {
        return Math.max(0, year - persons.get(p).born);
    }

    int limit(int p) {
        var entry = ages.floorEntry(age(p));
        int base = persons.get(p).lifts * (entry == null ? 100 : entry.getValue()) / 100;
        int[] facts = {p, age(p), persons.get(p).lifts, honourOf(bits(p)),
            Integer.bitCount(bits(p))};
        for (Law law : laws) {
            if (law.test.applyAsInt(facts) != 0) {
                base += law.sum.applyAsInt(facts);
                break;
            }
        }
        return Math.min(9999, Math.max(0, base));
    }

    int best(int offered, int room) {
        int best = 0;
        for (int set = 0; set < 1 << titles.size(); set++) {
            if ((set & ~offered) != 0 || weightOf(set) > room) {
                continue;
            }
            int by = Integer.compare(honourOf(set), honourOf(best));
            if (by == 0) {
                by = Integer.compare(Integer.bitCount(best), Integer.bitCount(set));
            }
            best = by > 0 ? set : best;
        }
        return best;
    }

    private static int[] letters(String name) {
        int[] row = new int[26];
        name.chars().forEach(c -> row[c - 'a']++);
        return row;
    }

    private int[] allLetters(int p) {
        int[] row = loose.get(p).clone();
        for (int t : coats.get(p).keySet()) {
            titles.get(t).name.chars().forEach(c -> row[c - 'a']++);
        }
        return row;
    }

    int called(int p) {
        int[] own = allLetters(p);
        int bits = 0;
        for (int t = 0; t < titles.size(); t++) {
            int[] need = letters(titles.get(t).name);
            boolean can = true;
            for (int i = 0; i < 26; i++) {
                can &= need[i] <= own[i];
            }
            bits |= can ? 1 << t : 0;
        }
        return bits;
    }

    int common(int a, int b) {
        int[] x = allLetters(a);
        int[] y = allLetters(b);
        int sum = 0;
        for (int i = 0; i < 26; i++) {
            sum += Math.min(x[i], y[i]) * ounces[i];
        }
        return sum;
    }

    boolean isPerson(int p) {
        return p >= 0 && p < persons.size();
    }

    boolean isTitle(int t) {
        return t >= 0 && t < titles.size();
    }

    boolean bears(int p, int t) {
        return isPerson(p) && isTitle(t) && coats.get(p).containsKey(t);
    }

    private void note(int kind, int who, int other, int oz) {
        moves.add(new int[] {year, kind, who, other, oz});
        if (moves.size() > 60) {
            moves.remove(0);
        }
    }

    private void go(int p, int t) {
        spans.add(new int[] {p, t, coats.get(p).remove(t), year});
        if (spans.size() > 80) {
            spans.remove(0);
        }
    }

    private void come(int p, int t) {
        coats.get(p).put(t, year);
    }

    private void add(int[] row, int[] more) {
        for (int i = 0; i < 26; i++) {
            row[i] += more[i];
        }
    }

    private int[] lacking(int p, int t) {
        int[] need = letters(titles.get(t).name);
        for (int i = 0; i < 26; i++) {
            need[i] = Math.max(0, need[i] - loose.get(p)[i]);
        }
        return need;
    }

    boolean canGain(int p, int t) {
        if (!isPerson(p) || !isTitle(t) || bears(p, t)) {
            return false;
        }
        int[] lack = lacking(p, t);
        for (int i = 0; i < 26; i++) {
            if (lack[i] > heap[i]) {
                return false;
            }
        }
        return load(p) + pile(lack) <= limit(p);
    }

    int gain(int p, int t) {
        if (!canGain(p, t)) {
            return -1;
        }
        int[] lack = lacking(p, t);
        int[] need = letters(titles.get(t).name);
        for (int i = 0; i < 26; i++) {
            heap[i] -= lack[i];
            loose.get(p)[i] -= need[i] - lack[i];
        }
        come(p, t);
        note(0, p, -1, pile(lack));
        return load(p);
    }

    int shed(int p, int t) {
        if (!bears(p, t)) {
            return -1;
        }
        go(p, t);
        add(heap, letters(titles.get(t).name));
        note(1, p, -1, weight(t));
        return load(p);
    }

    boolean steal(int thief, int from, int letter) {
        if (!isPerson(thief) || !isPerson(from) || thief == from || letter < 97 || letter > 122) {
            return false;
        }
        int i = letter - 97;
        if (loose.get(from)[i] == 0) {
            int unpicked = -1;
            for (int t : coats.get(from).keySet()) {
                if (titles.get(t).name.indexOf(letter) >= 0) {
                    unpicked = t;
                    break;
                }
            }
            if (unpicked < 0) {
                return false;
            }
            go(from, unpicked);
            add(loose.get(from), letters(titles.get(unpicked).name));
        }
        loose.get(from)[i]--;
        loose.get(thief)[i]++;
        note(2, thief, from, ounces[i]);
        return true;
    }

    boolean trade(int first, int letter, int second, int other) {
        if (!isPerson(first) || !isPerson(second) || first == second || letter == other
                || letter < 97 || letter > 122 || other < 97 || other > 122
                || loose.get(first)[letter - 97] == 0 || loose.get(second)[other - 97] == 0) {
            return false;
        }
        loose.get(first)[letter - 97]--;
        loose.get(second)[letter - 97]++;
        loose.get(second)[other - 97]--;
        loose.get(first)[other - 97]++;
        note(3, first, second, ounces[letter - 97]);
        return true;
    }

    int lend(int from, int to, int t) {
        if (!isPerson(to) || !bears(from, t) || bears(to, t) || loans.size() >= 20
                || load(to) + weight(t) > limit(to)) {
            return -1;
        }
        go(from, t);
        come(to, t);
        loans.add(new int[] {from, to, t});
        note(4, from, to, weight(t));
        return loans.size();
    }

    boolean canGiveBack(int k) {
        return k >= 0 && k < loans.size() && bears(loans.get(k)[1], loans.get(k)[2])
                && !bears(loans.get(k)[0], loans.get(k)[2]);
    }

    boolean giveBack(int k) {
        if (!canGiveBack(k)) {
            return false;
        }
        int[] loan = loans.remove(k);
        go(loan[1], loan[2]);
        come(loan[0], loan[2]);
        note(5, loan[1], loan[0], weight(loan[2]));
        return true;
    }

    int drown(int p) {
        if (!isPerson(p)) {
            return -1;
        }
        int all = load(p);
        for (int t : new ArrayList<>(coats.get(p).keySet())) {
            go(p, t);
        }
        Arrays.fill(loose.get(p), 0);
        river += all;
        note(6, p, -1, all);
        return all;
    }

    int melt(int p, int t) {
        if (!bears(p, t) || bullets.size() >= 30) {
            return -1;
        }
        go(p, t);
        bullets.add(weight(t));
        note(7, p, -1, weight(t));
        return bullets.size();
    }

    int heir(int from, int to) {
        if (!isPerson(from) || !isPerson(to) || from == to) {
            return -1;
        }
        int set = best(bits(from) & ~bits(to), Math.max(0, limit(to) - load(to)));
        for (int t : new ArrayList<>(coats.get(from).keySet())) {
            go(from, t);
            if ((set >> t & 1) != 0) {
                come(to, t);
            } else {
                add(heap, letters(titles.get(t).name));
            }
        }
        add(heap, loose.get(from));
        Arrays.fill(loose.get(from), 0);
        note(8, from, to, weightOf(set));
        return set;
    }

    int years(int n) {
        if (n < 1 || n > 60) {
            return -1;
        }
        int shed = 0;
        for (int i = 0; i < n; i++) {
            year = Math.min(999, year + 1);
            for (int p = 0; p < persons.size(); p++) {
                if (load(p) > limit(p)) {
                    add(heap, loose.get(p));
                    Arrays.fill(loose.get(p), 0);
                }
                if (load(p) > limit(p)) {
                    int kept = best(bits(p), limit(p));
                    for (int t : new ArrayList<>(coats.get(p).keySet())) {
                        if ((kept >> t & 1) == 0) {
                            shed(p, t);
                            shed++;
                        }
                    }
                }
            }
        }
        return shed;
    }

    int feast() {
        int gained = 0;
        for (int p = 0; p < persons.size(); p++) {
            List<Integer> could = new ArrayList<>();
            for (int t = 0; t < titles.size(); t++) {
                if (canGain(p, t)) {
                    could.add(t);
                }
            }
            seed = (1103515245L * seed + 12345) % (1L << 31);
            int place = (int) (seed / 64 % (could.size() + 1));
            if (place > 0) {
                gain(p, could.get(place - 1));
                gained++;
            }
        }
        return gained;
    }

    int signed(int t, int then) {
        int bits = 0;
        for (int[] span : spans) {
            if (span[1] == t && span[2] <= then && then <= span[3]) {
                bits |= 1 << span[0];
            }
        }
        for (int p = 0; p < persons.size(); p++) {
            if (bears(p, t) && coats.get(p).get(t) <= then && then <= year) {
                bits |= 1 << p;
            }
        }
        return bits;
    }

    int share(int p, int n, int k) {
        long all = 0;
        long own = 0;
        for (int i = 0; i < persons.size(); i++) {
            long likely = 1_000_000_000L;
            for (int j = 0; j < k; j++) {
                likely = Math.floorDiv(likely * persons.get(i).dents, 100L);
            }
            for (int j = k; j < n; j++) {
                likely = Math.floorDiv(likely * (100 - persons.get(i).dents), 100L);
            }
            all += likely;
            own = i == p ? likely : own;
        }
        return all == 0 ? 0 : (int) (1000 * own / all);
    }

    /** How many sets of the first sixteen bullets, and the first of them. */
    int[] inBullets(int wanted) {
        int seen = Math.min(16, bullets.size());
        int count = 0;
        int first = -1;
        for (int set = (1 << seen) - 1; set >= 0; set--) {
            int sum = 0;
            for (int i = 0; i < seen; i++) {
                sum += (set >> i & 1) * bullets.get(i);
            }
            if (sum == wanted) {
                count++;
                first = set;
            }
        }
        return new int[] {count, first};
    }

    /** The shortest row of two titles, of like ones the lightest, by trying every place. */
    String row(int first, int second) {
        String best = null;
        for (int turn = 0; turn < 2; turn++) {
            String a = titles.get(turn == 0 ? first : second).name;
            String b = titles.get(turn == 0 ? second : first).name;
            for (int at = 0; at <= a.length(); at++) {
                int both = Math.min(a.length(), at + b.length());
                if (!a.substring(at, both).equals(b.substring(0, both - at))) {
                    continue;
                }
                String row = a.substring(0, at) + b + a.substring(both);
                if (best == null || row.length() < best.length()
                        || row.length() == best.length() && weight(row) < weight(best)) {
                    best = row;
                }
            }
        }
        return best;
    }

    /** The fewest groups, set by set. */
    int goings(int bridge, int set) {
        for (int p = 0; p < persons.size(); p++) {
            if ((set >> p & 1) != 0 && load(p) > bridges.get(bridge).holds) {
                return -1;
            }
        }
        int[] fewest = new int[set + 1];
        for (int s = 1; s <= set; s++) {
            fewest[s] = 99;
            if ((s & ~set) != 0) {
                continue;
            }
            for (int group = s; group > 0; group = group - 1 & s) {
                int sum = 0;
                for (int p = 0; p < persons.size(); p++) {
                    sum += (group >> p & 1) * load(p);
                }
                if (sum <= bridges.get(bridge).holds) {
                    fewest[s] = Math.min(fewest[s], fewest[s & ~group] + 1);
                }
            }
        }
        return fewest[set];
    }

    int lead(int what) {
        int[] sums = new int[5];
        for (int p = 0; p < persons.size(); p++) {
            sums[0] += load(p);
        }
        sums[1] = pile(heap);
        sums[2] = river;
        sums[3] = bullets.stream().mapToInt(b -> b).sum();
        sums[4] = sums[0] + sums[1] + sums[2] + sums[3];
        return sums[what];
    }

    byte[] image() {
        List<Integer> bytes = new ArrayList<>();
        put(bytes, year, 2);
        for (int p = 0; p < persons.size(); p++) {
            put(bytes, bits(p), 2);
            for (int n : loose.get(p)) {
                put(bytes, n, 2);
            }
        }
        for (int n : heap) {
            put(bytes, n, 2);
        }
        put(bytes, river, 3);
        put(bytes, bullets.size(), 1);
        for (int n : bullets) {
            put(bytes, n, 2);
        }
        bytes.add(0);
        byte[] row = new byte[bytes.size()];
        for (int i = 0; i < row.length; i++) {
            row[i] = (byte) (int) bytes.get(i);
        }
        return Check.sealed(row);
    }

    private static void put(List<Integer> bytes, int number, int width) {
        for (int i = width - 1; i >= 0; i--) {
            bytes.add(number >> 8 * i & 255);
        }
    }

    /** As on() with an image of its own. */
    void forget() {
        loans.clear();
        moves.clear();
        spans.clear();
        for (TreeMap<Integer, Integer> coat : coats) {
            coat.replaceAll((t, since) -> year);
        }
    }
}
