import java.util.Arrays;

/**
 * Names by the pound: people who bear as many names as they can lift in letters of lead sewn into
 * a coat. The numbered promises of the document say what each call does and answers.
 */
public final class LeadNames {
    public static final int NONE = -1;

    private static final int TAPE_LIMIT = 1600;
    private static final int LETTERS = 26;
    private static final int FIRST_LETTER = 97;
    private static final int PERSONS = 8;
    private static final int TITLES = 12;
    private static final int AGES = 6;
    private static final int LAWS = 8;
    private static final int BRIDGES = 4;
    private static final int NAME_LENGTH = 6;
    private static final int NAME_BITS = 5;
    private static final int LAST_YEAR = 999;
    private static final int BULLETS = 30;

    // What refusals are counted by: the numbers of status().
    private static final int OF_TAPE = 0;
    private static final int OF_LAND = 1;
    private static final int OF_COATS = 2;
    private static final int OF_LOANS = 3;
    private static final int OF_TIME = 4;
    private static final int OF_IMAGES = 5;
    private static final int REFUSAL_KINDS = 6;

    private final int[] tape;
    private final int[] refusals;
    private final Reader reader;
    private final Parser parser;
    private final Coats coats;
    private final Acts acts;
    private final Search search;
    private final Image image;
    // A land is read into the spare one, so that a fault leaves the land that holds as it is.
    private Land spare;
    private int tapeLength;
    private int fault;
    private int faultPlace;

    public LeadNames() {
        tape = new int[TAPE_LIMIT];
        refusals = new int[REFUSAL_KINDS];
        reader = new Reader(tape);
        spare = new Land();
        parser = new Parser(reader, spare);
        search = new Search();
        coats = new Coats(new Land());
        acts = new Acts(coats, search);
        image = new Image();
        tapeLength = 0;
        fault = 0;
        faultPlace = NONE;
    }

    public int feed(int a, int b, int c, int d, int e) {
        if (tapeLength + 20 > TAPE_LIMIT) {
            return counted(NONE, OF_TAPE);
        }
        putOnTape(a);
        putOnTape(b);
        putOnTape(c);
        putOnTape(d);
        putOnTape(e);
        return tapeLength;
    }

    private void putOnTape(int number) {
        for (int shift = 24; shift >= 0 && tapeLength < TAPE_LIMIT; shift -= 8) {
            tape[tapeLength] = number >> shift & 255;
            tapeLength++;
        }
    }

    public boolean end(int n) {
        if (n < 0 || n > tapeLength) {
            return granted(false, OF_TAPE);
        }
        tapeLength = n;
        return true;
    }

    public int land() {
        reader.start(tapeLength);
        tapeLength = 0;
        int statements = parser.readLand(spare);
        fault = reader.fault;
        faultPlace = reader.place;
        if (statements == NONE) {
            return counted(NONE, OF_LAND);
        }
        Land old = coats.land;
        coats.settle(spare);
        acts.forget();
        spare = old;
        return statements;
    }

    public int fault(int what) {
        switch (what) {
            case 0: return fault;
            case 1: return faultPlace;
            default: return NONE;
        }
    }

    public int has(int what) {
        Land land = coats.land;
        switch (what) {
            case 0: return land.persons.size;
            case 1: return land.titles.size;
            case 2: return land.ages.size;
            case 3: return land.laws.size;
            case 4: return land.bridges.size;
            case 5: return coats.year;
            case 6: return acts.loans.size;
            case 7: return coats.bulletCount;
            case 8: return acts.moves.size;
            default: return NONE;
        }
    }

    public int letter(int kind, int which, int k) {
        Land land = coats.land;
        int name = 0;
        switch (kind) {
            case 0: name = land.persons.name(which); break;
            case 1: name = land.titles.name(which); break;
            case 2: name = land.bridges.name(which); break;
            default: return NONE;
        }
        int letter = Roll.letterOf(name, k);
        return letter == NONE ? NONE : letter + FIRST_LETTER;
    }

    public int ounces(int letter) {
        return coats.land.ouncesOf(letterIndex(letter));
    }

    public int title(int title, int what) {
        Land land = coats.land;
        if (!land.titles.holds(title)) {
            return NONE;
        }
        switch (what) {
            case 0: return land.titleOunces(title);
            case 1: return land.titles.get(title, Land.HONOUR);
            case 2: return Roll.lengthOf(land.titles.name(title));
            case 3: return coats.bearers(title);
            default: return NONE;
        }
    }

    public int person(int person, int what) {
        if (!coats.isPerson(person)) {
            return NONE;
        }
        switch (what) {
            case 0: return coats.ageOf(person);
            case 1: return coats.limitOf(person);
            case 2: return coats.loadOf(person);
            case 3: return coats.honourOf(person);
            case 4: return coats.titlesOf(person);
            case 5: return coats.looseLetters(person);
            case 6: return bestOfAll(person);
            case 7: return coats.land.honourOfSet(bestOfAll(person));
            case 8: return coats.calledBy(person);
            default: return NONE;
        }
    }

    private int bestOfAll(int person) {
        return search.bestSet(coats.land, coats.land.allTitles(), coats.limitOf(person));
    }

    public int loose(int person, int letter) {
        int index = letterIndex(letter);
        if (index == NONE || (person != NONE && !coats.isPerson(person))) {
            return NONE;
        }
        return coats.count(person == NONE ? Coats.HEAP : person, index);
    }

    public int lead(int what) {
        switch (what) {
            case 0: return coats.coatOunces();
            case 1: return coats.looseOunces(Coats.HEAP);
            case 2: return coats.river;
            case 3: return coats.bulletOunces();
            case 4: return coats.coatOunces() + coats.looseOunces(Coats.HEAP)
                        + coats.river + coats.bulletOunces();
            default: return NONE;
        }
    }

    public int gain(int person, int title) {
        return counted(acts.makeTitle(person, title), OF_COATS);
    }

    public int shed(int person, int title) {
        return counted(acts.dropTitle(person, title), OF_COATS);
    }

    public boolean steal(int thief, int from, int letter) {
        return granted(acts.takeLetter(thief, from, letterIndex(letter)), OF_COATS);
    }

    public boolean trade(int first, int letter, int second, int other) {
        int given = letterIndex(letter);
        int gotten = letterIndex(other);
        return granted(acts.swapLetters(first, given, second, gotten), OF_COATS);
    }

    public int lend(int from, int to, int title) {
        return counted(acts.lendTitle(from, to, title), OF_LOANS);
    }

    public boolean giveBack(int k) {
        return granted(acts.undoLoan(k), OF_LOANS);
    }

    public int loan(int k, int what) {
        if (what == Acts.LOAN_WIDTH && acts.loans.holds(k)) {
            return acts.canUndo(k) ? 1 : 0;
        }
        return acts.loans.get(k, what);
    }

    public int drown(int person) {
        return counted(acts.sinkCoat(person), OF_LOANS);
    }

    public int melt(int person, int title) {
        return counted(acts.castBullet(person, title), OF_LOANS);
    }

    public int heir(int from, int to) {
        return counted(acts.inherit(from, to), OF_LOANS);
    }

    public int years(int n) {
        return counted(acts.passYears(n), OF_TIME);
    }

    public int feast() {
        int gained = 0;
        for (int person = 0; person < coats.land.persons.size; person++) {
            int place = acts.draw(acts.gainable(person) + 1);
            if (place > 0 && acts.makeTitle(person, acts.gainableAt(person, place)) != NONE) {
                gained++;
            }
        }
        return gained;
    }

    public boolean seed(int to) {
        return granted(acts.sow(to), OF_TIME);
    }

    public int signed(int title, int year) {
        if (!coats.land.titles.holds(title) || year < 0 || year > LAST_YEAR) {
            return NONE;
        }
        return coats.signers(title, year);
    }

    public int span(int k, int what) {
        return coats.spans.get(k, what);
    }

    public int moved(int k, int what) {
        return acts.moves.get(k, what);
    }

    public int share(int person, int n, int k) {
        if (!coats.isPerson(person) || n < 0 || n > 40 || k < 0 || k > n) {
            return NONE;
        }
        return coats.land.shareOf(person, n, k);
    }

    public int bullets(int ounces, int what) {
        if (ounces < 0 || ounces > 99999 || what < 0 || what > 1) {
            return NONE;
        }
        search.seekBullets(coats.bullets, coats.bulletCount, ounces);
        return what == 0 ? search.found : search.first;
    }

    public int row(int first, int second, int what) {
        Land land = coats.land;
        if (!land.titles.holds(first) || !land.titles.holds(second) || first == second) {
            return NONE;
        }
        switch (what) {
            case 0: return land.pairLength(first, second) - land.shared(first, second);
            case 1: return land.rowOunces(first, second);
            case 2: return land.shared(first, second);
            default: return NONE;
        }
    }

    public int goings(int bridge, int persons) {
        if (!coats.land.bridges.holds(bridge) || persons < 0
                || persons >= 1 << coats.land.persons.size) {
            return NONE;
        }
        return search.fewestGroups(coats, persons, coats.land.bridges.get(bridge, Land.HOLDS));
    }

    public int common(int first, int second) {
        if (!coats.isPerson(first) || !coats.isPerson(second) || first == second) {
            return NONE;
        }
        return coats.sharedOunces(first, second);
    }

    public int image() {
        image.write(coats);
        return image.length;
    }

    public int octet(int k) {
        return k < 0 || k >= image.length ? NONE : image.bytes[k];
    }

    public boolean on() {
        int length = tapeLength;
        tapeLength = 0;
        if (!Image.fits(tape, length, coats)) {
            return granted(false, OF_IMAGES);
        }
        Image.restore(tape, coats);
        acts.forget();
        return true;
    }

    public int status(int what) {
        return what < 0 || what >= REFUSAL_KINDS ? NONE : refusals[what];
    }

    private int counted(int answer, int kind) {
        if (answer == NONE && kind >= 0 && kind < REFUSAL_KINDS) {
            refusals[kind]++;
        }
        return answer;
    }

    private boolean granted(boolean answer, int kind) {
        return counted(answer ? 1 : NONE, kind) != NONE;
    }

    private static int letterIndex(int letter) {
        int index = letter - FIRST_LETTER;
        return letter < FIRST_LETTER || index >= LETTERS ? NONE : index;
    }

    /**
     * Things of one kind in their order: a name each (0 for a kind without names) and some numbers.
     * A name is its letters, 1 .. 26, in five bits each, the first letter lowest.
     */
    private static final class Roll {
        final int limit;
        final int width;
        final int[] names;
        final int[] numbers;
        int size;

        Roll(int limit, int width) {
            this.limit = limit;
            this.width = width;
            names = new int[limit];
            numbers = new int[limit * width];
            size = 0;
        }

        boolean holds(int which) {
            return which >= 0 && which < size;
        }

        boolean isFull() {
            return size >= limit;
        }

        int name(int which) {
            return holds(which) ? names[which] : 0;
        }

        int get(int which, int column) {
            return which >= 0 && which < size && column >= 0 && column < width
                    ? numbers[which * width + column] : NONE;
        }

        void put(int which, int column, int number) {
            if (holds(which) && column >= 0 && column < width) {
                numbers[which * width + column] = number;
            }
        }

        int add(int name) {
            if (isFull()) {
                return NONE;
            }
            names[size] = name;
            size++;
            return size - 1;
        }

        int find(int name) {
            for (int i = 0; i < size; i++) {
                if (names[i] == name) {
                    return i;
                }
            }
            return NONE;
        }

        void remove(int which) {
            if (!holds(which)) {
                return;
            }
            for (int i = which; i + 1 < size; i++) {
                names[i] = names[i + 1];
                for (int column = 0; column < width; column++) {
                    numbers[i * width + column] = numbers[(i + 1) * width + column];
                }
            }
            size--;
        }

        static int lengthOf(int name) {
            int length = 0;
            while (length < NAME_LENGTH && (name >> length * NAME_BITS & 31) != 0) {
                length++;
            }
            return length;
        }

        /** Letter k of a name, 0 .. 25; NONE behind its end. */
        static int letterOf(int name, int k) {
            if (k < 0 || k >= NAME_LENGTH) {
                return NONE;
            }
            return (name >> k * NAME_BITS & 31) - 1;
        }
    }

    /** The last rows of numbers that came, the oldest first; where it is full the oldest goes. */
    private static final class Ring {
        final int limit;
        final int width;
        final int[] numbers;
        int oldest;
        int size;

        Ring(int limit, int width) {
            this.limit = limit;
            this.width = width;
            numbers = new int[limit * width];
            oldest = 0;
            size = 0;
        }

        void clear() {
            oldest = 0;
            size = 0;
        }

        int get(int k, int column) {
            if (k < 0 || k >= size || column < 0 || column >= width) {
                return NONE;
            }
            return numbers[place(k) * width + column];
        }

        /** Makes room for a row behind the newest one, whose numbers set() then puts. */
        void grow() {
            if (size < limit) {
                size++;
            } else {
                oldest = place(1);
            }
        }

        void set(int column, int number) {
            if (size > 0 && column >= 0 && column < width) {
                numbers[place(size - 1) * width + column] = number;
            }
        }

        private int place(int k) {
            int at = oldest + k;
            return at < limit ? at : at - limit;
        }
    }

    /** What a land's text tells, and what follows from that alone. */
    private static final class Land {
        // Columns of the rolls.
        static final int BORN = 0;
        static final int LIFTS = 1;
        static final int DENTS = 2;
        static final int HONOUR = 0;
        static final int OUNCES = 1;
        static final int BEGINS = 0;
        static final int PARTS = 1;
        static final int SUM_START = 0;
        static final int TEST_START = 1;
        static final int TEST_END = 2;
        static final int HOLDS = 0;
        static final int USUAL_OUNCES = 10;
        static final long LIKELY = 1000000000L;

        final Roll persons;
        final Roll titles;
        final Roll ages;
        final Roll laws;
        final Roll bridges;
        final int[] ounces;
        final int[] heap;
        final int[] had;
        final int[] code;
        int codeLength;
        int year;

        Land() {
            persons = new Roll(PERSONS, 3);
            titles = new Roll(TITLES, 2);
            ages = new Roll(AGES, 2);
            laws = new Roll(LAWS, 3);
            bridges = new Roll(BRIDGES, 1);
            ounces = new int[LETTERS];
            heap = new int[LETTERS];
            had = new int[PERSONS];
            code = new int[TAPE_LIMIT];
            Arrays.fill(ounces, USUAL_OUNCES);
        }

        void clear() {
            persons.size = 0;
            titles.size = 0;
            ages.size = 0;
            laws.size = 0;
            bridges.size = 0;
            Arrays.fill(ounces, USUAL_OUNCES);
            Arrays.fill(heap, 0);
            Arrays.fill(had, 0);
            codeLength = 0;
            year = 0;
        }

        boolean addCode(int step) {
            if (codeLength >= TAPE_LIMIT) {
                return false;
            }
            code[codeLength] = step;
            codeLength++;
            return true;
        }

        boolean isNamed(int name) {
            return persons.find(name) != NONE || titles.find(name) != NONE
                    || bridges.find(name) != NONE;
        }

        int allTitles() {
            return (1 << titles.size) - 1;
        }

        int ouncesOf(int letter) {
            return letter < 0 || letter >= LETTERS ? NONE : ounces[letter];
        }

        int nameOunces(int name) {
            int sum = 0;
            int length = Roll.lengthOf(name);
            for (int k = 0; k < length; k++) {
                sum += ouncesOf(Roll.letterOf(name, k));
            }
            return sum;
        }

        /** Once all letters are told: the last telling of a letter counts for all titles. */
        void weighTitles() {
            for (int title = 0; title < titles.size; title++) {
                titles.put(title, OUNCES, nameOunces(titles.name(title)));
            }
        }

        int titleOunces(int title) {
            return titles.get(title, OUNCES);
        }

        int ouncesOfSet(int set) {
            int sum = 0;
            for (int title = 0; title < titles.size; title++) {
                if ((set >> title & 1) != 0) {
                    sum += titles.get(title, OUNCES);
                }
            }
            return sum;
        }

        int honourOfSet(int set) {
            int sum = 0;
            for (int title = 0; title < titles.size; title++) {
                if ((set >> title & 1) != 0) {
                    sum += titles.get(title, HONOUR);
                }
            }
            return sum;
        }

        /** How many of a title's letters up to its k-th are like that one. */
        int rankOf(int title, int k) {
            int name = titles.name(title);
            int letter = Roll.letterOf(name, k);
            int rank = 0;
            for (int i = 0; i <= k && i < NAME_LENGTH; i++) {
                if (Roll.letterOf(name, i) == letter) {
                    rank++;
                }
            }
            return rank;
        }

        int partsAt(int age) {
            int parts = 100;
            for (int i = 0; i < ages.size; i++) {
                if (ages.get(i, BEGINS) <= age) {
                    parts = ages.get(i, PARTS);
                }
            }
            return parts;
        }

        int shareOf(int person, int n, int k) {
            long all = 0;
            for (int i = 0; i < persons.size; i++) {
                all += likely(i, n, k);
            }
            return all <= 0 ? 0 : (int) (1000 * likely(person, n, k) / all);
        }

        private long likely(int person, int n, int k) {
            int dents = persons.get(person, DENTS);
            long likely = LIKELY;
            for (int i = 0; i < n; i++) {
                likely = likely * (i < k ? dents : 100 - dents) / 100;
            }
            return likely;
        }

        int pairLength(int first, int second) {
            return Roll.lengthOf(titles.name(first)) + Roll.lengthOf(titles.name(second));
        }

        int shared(int first, int second) {
            int one = titles.name(first);
            int other = titles.name(second);
            if (isWithin(one, other) || isWithin(other, one)) {
                return Math.min(Roll.lengthOf(one), Roll.lengthOf(other));
            }
            return Math.max(joint(one, other), joint(other, one));
        }

        int rowOunces(int first, int second) {
            int one = titles.name(first);
            int other = titles.name(second);
            int both = nameOunces(one) + nameOunces(other);
            if (isWithin(one, other)) {
                return nameOunces(other);
            }
            if (isWithin(other, one)) {
                return nameOunces(one);
            }
            int there = joint(one, other);
            int back = joint(other, one);
            int sharedThere = nameOunces(start(other, there));
            int sharedBack = nameOunces(start(one, back));
            if (there != back) {
                return both - (there > back ? sharedThere : sharedBack);
            }
            return both - Math.max(sharedThere, sharedBack);
        }

        private static boolean isWithin(int part, int whole) {
            int length = Roll.lengthOf(part);
            int places = Roll.lengthOf(whole) - length;
            for (int i = 0; i <= places; i++) {
                if (start(whole >> i * NAME_BITS, length) == part) {
                    return true;
                }
            }
            return false;
        }

        /** How many letters can at most be the end of one name and the start of another one. */
        private static int joint(int ahead, int behind) {
            int length = Roll.lengthOf(ahead);
            for (int k = Math.min(length, Roll.lengthOf(behind)); k > 0; k--) {
                if (ahead >> (length - k) * NAME_BITS == start(behind, k)) {
                    return k;
                }
            }
            return 0;
        }

        private static int start(int name, int length) {
            return name & (1 << length * NAME_BITS) - 1;
        }
    }

    /** Words, numbers and signs along a text, one at a time, and the first fault. */
    private static final class Reader {
        // Tokens: a sign is its byte; these are above all bytes; own words are from OWN on.
        static final int LAST_SIGN = 255;
        static final int WORD = 300;
        static final int NUMBER = 301;
        static final int END = 302;
        static final int BROKEN = 303;
        static final int OWN = 400;
        static final int LETTER = OWN;
        static final int PERSON = OWN + 1;
        static final int BORN = OWN + 2;
        static final int LIFTS = OWN + 3;
        static final int DENTS = OWN + 4;
        static final int TITLE = OWN + 5;
        static final int HONOUR = OWN + 6;
        static final int HAS = OWN + 7;
        static final int HEAP = OWN + 8;
        static final int AGE = OWN + 9;
        static final int BEARS = OWN + 10;
        static final int BRIDGE = OWN + 11;
        static final int YEAR = OWN + 12;
        static final int WHEN = OWN + 13;
        static final int OR = OWN + 14;
        static final int AND = OWN + 15;
        static final int NOT = OWN + 16;
        static final int ALL = OWN + 17;
        static final int OLD = OWN + 18;
        static final int FORCE = OWN + 19;
        static final int NAMES = OWN + 20;
        static final int MIN = OWN + 21;
        static final int MAX = OWN + 22;
        static final int OWN_WORDS = 23;
        // In the order of their numbers, a blank behind each.
        static final String OWN_TEXT =
                "letter person born lifts dents title honour has heap age bears bridge year when or and not all old force names min max ";
        static final int DIGITS = 4;

        final int[] text;
        final int[] ownNames;
        int length;
        int next;
        int at;
        int token;
        int value;
        boolean isRead;
        int fault;
        int place;

        Reader(int[] text) {
            this.text = text;
            ownNames = new int[OWN_WORDS];
            fillOwnNames();
        }

        private void fillOwnNames() {
            int word = 0;
            int k = 0;
            for (int i = 0; i < OWN_TEXT.length() && word < OWN_WORDS; i++) {
                char c = OWN_TEXT.charAt(i);
                if (c == ' ') {
                    word++;
                    k = 0;
                } else {
                    ownNames[word] |= c - FIRST_LETTER + 1 << k * NAME_BITS;
                    k++;
                }
            }
        }

        void start(int count) {
            length = Math.max(0, Math.min(count, text.length));
            next = 0;
            at = 0;
            isRead = false;
            fault = 0;
            place = NONE;
        }

        /** Keeps the first fault alone. Answers false, for the caller to hand on. */
        boolean fail(int kind, int where) {
            if (fault == 0) {
                fault = kind;
                place = where;
            }
            return false;
        }

        boolean failHere(int kind) {
            return fail(kind, at);
        }

        void skip() {
            isRead = false;
        }

        /**
         * The token that comes. It is read only when it is asked for: a fault of what a token
         * means must come ahead of a fault in the bytes behind it.
         */
        int look() {
            if (isRead || fault != 0) {
                return fault == 0 ? token : BROKEN;
            }
            isRead = true;
            while (next < length && (text[next] == 10 || text[next] == 32)) {
                next++;
            }
            at = next;
            token = at < length ? kindOf(text[at]) : END;
            boolean isGlued = at > 0 && kindOf(text[at - 1]) > LAST_SIGN;
            boolean fine = true;
            if (token == WORD) {
                fine = !isGlued && readWord();
            } else if (token == NUMBER) {
                fine = !isGlued && readNumber();
            } else if (token != END) {
                next++;
            }
            if (!fine) {
                fail(1, next);
            }
            return fault == 0 ? token : BROKEN;
        }

        private static int kindOf(int c) {
            if (c >= 'a' && c <= 'z') {
                return WORD;
            }
            return c >= '0' && c <= '9' ? NUMBER : c;
        }

        /** False at a letter too many, where next then stands. */
        private boolean readWord() {
            value = 0;
            while (next < length && text[next] >= 'a' && text[next] <= 'z') {
                int k = next - at;
                if (k >= NAME_LENGTH) {
                    return false;
                }
                value |= text[next] - FIRST_LETTER + 1 << k * NAME_BITS;
                next++;
            }
            for (int i = 0; i < OWN_WORDS; i++) {
                if (ownNames[i] == value) {
                    token = OWN + i;
                }
            }
            return true;
        }

        /** False at a digit too many, where next then stands. */
        private boolean readNumber() {
            value = 0;
            while (next < length && text[next] >= '0' && text[next] <= '9') {
                if (next - at >= DIGITS) {
                    return false;
                }
                value = value * 10 + text[next] - '0';
                next++;
            }
            return true;
        }
    }

    /** Reads a whole land; laws become steps of the abacus, each part ahead of its sign. */
    private static final class Parser {
        static final int OPEN_LIMIT = 8;

        final Reader reader;
        Land land;
        // The last number, letter or place of a name that was taken.
        int taken;

        Parser(Reader reader, Land land) {
            this.reader = reader;
            this.land = land;
            taken = 0;
        }

        /** How many statements; NONE with a fault, which the reader has then. */
        int readLand(Land into) {
            land = into;
            land.clear();
            int statements = 0;
            while (statements <= TAPE_LIMIT && reader.look() != Reader.END) {
                boolean fine;
                switch (reader.look()) {
                    case Reader.LETTER: fine = letterOunces(); break;
                    case Reader.PERSON: fine = newPerson(); break;
                    case Reader.TITLE: fine = newTitle(); break;
                    case Reader.HAS: fine = titleHad(); break;
                    case Reader.HEAP: fine = heapLetters(); break;
                    case Reader.AGE: fine = newAge(); break;
                    case Reader.BEARS: fine = newLaw(); break;
                    case Reader.BRIDGE: fine = newBridge(); break;
                    case Reader.YEAR: fine = yearNow(); break;
                    default: fine = reader.failHere(1);
                }
                if (!fine || !token(';')) {
                    return NONE;
                }
                statements++;
            }
            land.weighTitles();
            return statements;
        }

        private boolean letterOunces() {
            reader.skip();
            if (!oneLetter()) {
                return false;
            }
            int letter = taken;
            if (!number(1, 99)) {
                return false;
            }
            land.ounces[letter] = taken;
            return true;
        }

        private boolean heapLetters() {
            reader.skip();
            if (!oneLetter()) {
                return false;
            }
            int letter = taken;
            if (!number(0, 99)) {
                return false;
            }
            land.heap[letter] = taken;
            return true;
        }

        private boolean yearNow() {
            reader.skip();
            if (!number(0, 99)) {
                return false;
            }
            land.year = taken;
            return true;
        }

        private boolean newPerson() {
            return begin(land.persons) && newName(land.persons)
                    && token(Reader.BORN) && number(0, 99) && keep(land.persons, Land.BORN)
                    && token(Reader.LIFTS) && number(0, 999) && keep(land.persons, Land.LIFTS)
                    && token(Reader.DENTS) && number(0, 100) && keep(land.persons, Land.DENTS);
        }

        private boolean newTitle() {
            return begin(land.titles) && newName(land.titles)
                    && token(Reader.HONOUR) && number(0, 999) && keep(land.titles, Land.HONOUR);
        }

        private boolean newBridge() {
            return begin(land.bridges) && newName(land.bridges)
                    && number(0, 9999) && keep(land.bridges, Land.HOLDS);
        }

        private boolean titleHad() {
            reader.skip();
            if (!knownName(land.persons)) {
                return false;
            }
            int person = taken;
            if (reader.look() != Reader.WORD) {
                return reader.failHere(1);
            }
            int title = land.titles.find(reader.value);
            if (title == NONE || (land.had[person] >> title & 1) != 0) {
                return reader.failHere(3);
            }
            reader.skip();
            land.had[person] |= 1 << title;
            return true;
        }

        private boolean newAge() {
            if (!begin(land.ages)) {
                return false;
            }
            int least = 0;
            if (land.ages.size > 0) {
                least = land.ages.get(land.ages.size - 1, Land.BEGINS) + 1;
            }
            if (!number(least, 99)) {
                return false;
            }
            land.ages.add(0);
            keep(land.ages, Land.BEGINS);
            return number(0, 200) && keep(land.ages, Land.PARTS);
        }

        private boolean newLaw() {
            if (!begin(land.laws)) {
                return false;
            }
            int law = land.laws.add(0);
            land.laws.put(law, Land.SUM_START, land.codeLength);
            if (!sum(0) || !token(Reader.WHEN)) {
                return false;
            }
            land.laws.put(law, Land.TEST_START, land.codeLength);
            if (!test(0)) {
                return false;
            }
            land.laws.put(law, Land.TEST_END, land.codeLength);
            return true;
        }

        private boolean begin(Roll roll) {
            if (roll.isFull()) {
                return reader.failHere(5);
            }
            reader.skip();
            return true;
        }

        private boolean token(int due) {
            if (reader.look() != due) {
                return reader.failHere(1);
            }
            reader.skip();
            return true;
        }

        private boolean number(int least, int most) {
            if (reader.look() != Reader.NUMBER) {
                return reader.failHere(1);
            }
            if (reader.value < least || reader.value > most) {
                return reader.failHere(4);
            }
            taken = reader.value;
            reader.skip();
            return true;
        }

        /** What was taken is a number of the thing that came last into a roll. */
        private boolean keep(Roll roll, int column) {
            roll.put(roll.size - 1, column, taken);
            return true;
        }

        private boolean oneLetter() {
            if (reader.look() != Reader.WORD) {
                return reader.failHere(1);
            }
            int letter = Roll.letterOf(reader.value, 0);
            if (Roll.lengthOf(reader.value) != 1 || letter < 0 || letter >= LETTERS) {
                return reader.failHere(1);
            }
            taken = letter;
            reader.skip();
            return true;
        }

        private boolean newName(Roll roll) {
            if (reader.look() != Reader.WORD) {
                return reader.failHere(1);
            }
            if (land.isNamed(reader.value)) {
                return reader.failHere(2);
            }
            roll.add(reader.value);
            reader.skip();
            return true;
        }

        private boolean knownName(Roll roll) {
            if (reader.look() != Reader.WORD) {
                return reader.failHere(1);
            }
            taken = roll.find(reader.value);
            if (taken == NONE) {
                return reader.failHere(3);
            }
            reader.skip();
            return true;
        }

        /** open: how many brackets are open around; it bounds how deep these go into each other. */
        private boolean test(int open) {
            boolean fine = both(open);
            for (int i = 0; i < TAPE_LIMIT && fine && reader.look() == Reader.OR; i++) {
                reader.skip();
                fine = both(open) && land.addCode(Abacus.OR);
            }
            return fine;
        }

        private boolean both(int open) {
            boolean fine = fact(open);
            for (int i = 0; i < TAPE_LIMIT && fine && reader.look() == Reader.AND; i++) {
                reader.skip();
                fine = fact(open) && land.addCode(Abacus.AND);
            }
            return fine;
        }

        private boolean fact(int open) {
            boolean isTurned = false;
            for (int i = 0; i < TAPE_LIMIT && reader.look() == Reader.NOT; i++) {
                reader.skip();
                isTurned = !isTurned;
            }
            boolean fine;
            if (reader.look() == Reader.ALL) {
                fine = step(1);
            } else if (reader.look() == '[') {
                fine = bracket(open) && test(open + 1) && token(']');
            } else {
                int sign = sum(open) ? comparisonSign() : 0;
                fine = sign != 0 && sum(open) && land.addCode(sign);
            }
            return fine && (!isTurned || land.addCode(Abacus.NOT));
        }

        private boolean bracket(int open) {
            if (open >= OPEN_LIMIT) {
                return reader.failHere(5);
            }
            reader.skip();
            return true;
        }

        /** The step of the sign that comes; 0 with a fault. */
        private int comparisonSign() {
            int sign = 0;
            switch (reader.look()) {
                case '<': sign = Abacus.LESS; break;
                case '>': sign = Abacus.MORE; break;
                case '=': sign = Abacus.LIKE; break;
                default: reader.failHere(1);
            }
            reader.skip();
            return sign;
        }

        private boolean sum(int open) {
            boolean fine = product(open);
            for (int i = 0; i < TAPE_LIMIT && fine; i++) {
                int step = 0;
                switch (reader.look()) {
                    case '+': step = Abacus.PLUS; break;
                    case '-': step = Abacus.MINUS; break;
                    default: return true;
                }
                reader.skip();
                fine = product(open) && land.addCode(step);
            }
            return fine;
        }

        private boolean product(int open) {
            boolean fine = part(open);
            for (int i = 0; i < TAPE_LIMIT && fine; i++) {
                int step = 0;
                switch (reader.look()) {
                    case '*': step = Abacus.TIMES; break;
                    case '/': step = Abacus.OVER; break;
                    case '%': step = Abacus.REST; break;
                    default: return true;
                }
                reader.skip();
                fine = part(open) && land.addCode(step);
            }
            return fine;
        }

        private boolean part(int open) {
            switch (reader.look()) {
                case Reader.NUMBER: return step(reader.value);
                case Reader.PERSON: return step(Abacus.PERSON);
                case Reader.OLD: return step(Abacus.OLD);
                case Reader.FORCE: return step(Abacus.FORCE);
                case Reader.HONOUR: return step(Abacus.HONOUR);
                case Reader.NAMES: return step(Abacus.NAMES);
                case '(': return bracket(open) && sum(open + 1) && token(')');
                case Reader.MIN: return choice(open, Abacus.MIN);
                case Reader.MAX: return choice(open, Abacus.MAX);
                default: return reader.failHere(1);
            }
        }

        private boolean step(int step) {
            reader.skip();
            return land.addCode(step);
        }

        private boolean choice(int open, int step) {
            reader.skip();
            if (reader.look() != '(') {
                return reader.failHere(1);
            }
            return bracket(open) && sum(open + 1) && token(',') && sum(open + 1) && token(')')
                    && land.addCode(step);
        }
    }

    /** Works out the steps of a law: numbers go on a stack, signs take theirs from it. */
    private static final class Abacus {
        // Steps below 0; a step from 0 on is that number itself.
        static final int PERSON = -1;
        static final int OLD = -2;
        static final int FORCE = -3;
        static final int HONOUR = -4;
        static final int NAMES = -5;
        static final int FACTS = 5;
        static final int NOT = -6;
        static final int OR = -7;
        static final int AND = -8;
        static final int LESS = -9;
        static final int MORE = -10;
        static final int LIKE = -11;
        static final int PLUS = -12;
        static final int MINUS = -13;
        static final int TIMES = -14;
        static final int OVER = -15;
        static final int REST = -16;
        static final int MIN = -17;
        static final int MAX = -18;
        static final long MOST = 1000000L;
        // Eight open brackets hold at most some thirty numbers back.
        static final int DEPTH = 64;

        final int[] stack;
        final int[] facts;
        int size;

        Abacus() {
            stack = new int[DEPTH];
            facts = new int[FACTS];
            size = 0;
        }

        void tell(int fact, int value) {
            int place = -1 - fact;
            if (place >= 0 && place < FACTS) {
                facts[place] = value;
            }
        }

        /** The sum of the first law whose test holds; 0 without. */
        int firstLaw(Land land) {
            for (int law = 0; law < land.laws.size; law++) {
                int middle = land.laws.get(law, Land.TEST_START);
                if (run(land.code, middle, land.laws.get(law, Land.TEST_END)) != 0) {
                    return run(land.code, land.laws.get(law, Land.SUM_START), middle);
                }
            }
            return 0;
        }

        private int run(int[] code, int from, int to) {
            size = 0;
            for (int i = Math.max(0, from); i < to && i < code.length; i++) {
                int step = code[i];
                if (step >= 0) {
                    push(step);
                } else if (step >= -FACTS) {
                    push(facts[-1 - step]);
                } else if (step == NOT) {
                    push(1 - pop());
                } else {
                    int right = pop();
                    push(held(joined(step, pop(), right)));
                }
            }
            return pop();
        }

        private void push(int value) {
            if (size < DEPTH) {
                stack[size] = value;
                size++;
            }
        }

        private int pop() {
            if (size <= 0) {
                return 0;
            }
            size--;
            return stack[size];
        }

        private static long joined(int step, long left, long right) {
            switch (step) {
                case OR: return left | right;
                case AND: return left & right;
                case LESS: return left < right ? 1 : 0;
                case MORE: return left > right ? 1 : 0;
                case LIKE: return left == right ? 1 : 0;
                case PLUS: return left + right;
                case MINUS: return left - right;
                case TIMES: return left * right;
                case OVER: return right == 0 ? 0 : Math.floorDiv(left, right);
                case REST: return right == 0 ? 0 : Math.floorMod(left, right);
                case MIN: return Math.min(left, right);
                case MAX: return Math.max(left, right);
                default: return 0;
            }
        }

        private static int held(long value) {
            return (int) Math.max(-MOST, Math.min(MOST, value));
        }
    }

    /** Where the lead is now: coats, heap, river, bullets; and who bore which title when. */
    private static final class Coats {
        // The heap is one row of loose letters more, behind those of the persons.
        static final int HEAP = PERSONS;
        static final int SPANS = 80;
        static final int MOST_LIMIT = 9999;

        Land land;
        int year;
        int river;
        int bulletCount;
        final int[] titles;
        final int[] loose;
        final int[] bullets;
        final int[] since;
        final int[] ownLetters;
        final int[] otherLetters;
        final Ring spans;
        final Abacus abacus;

        Coats(Land land) {
            this.land = land;
            year = 0;
            river = 0;
            bulletCount = 0;
            titles = new int[PERSONS];
            loose = new int[(PERSONS + 1) * LETTERS];
            bullets = new int[BULLETS];
            since = new int[PERSONS * TITLES];
            ownLetters = new int[LETTERS];
            otherLetters = new int[LETTERS];
            spans = new Ring(SPANS, 4);
            abacus = new Abacus();
        }

        void settle(Land newLand) {
            land = newLand;
            year = land.year;
            river = 0;
            bulletCount = 0;
            Arrays.fill(loose, 0);
            System.arraycopy(land.had, 0, titles, 0, PERSONS);
            System.arraycopy(land.heap, 0, loose, HEAP * LETTERS, LETTERS);
            bearAnew();
        }

        void bearAnew() {
            spans.clear();
            Arrays.fill(since, year);
        }

        boolean isPerson(int person) {
            return land.persons.holds(person);
        }

        boolean bears(int person, int title) {
            return land.persons.holds(person) && land.titles.holds(title)
                    && (titles[person] >> title & 1) != 0;
        }

        boolean lacks(int person, int title) {
            return land.persons.holds(person) && land.titles.holds(title) && !bears(person, title);
        }

        int titlesOf(int person) {
            return person >= 0 && person < PERSONS ? titles[person] : 0;
        }

        int bearers(int title) {
            int bits = 0;
            for (int person = 0; person < land.persons.size; person++) {
                if (bears(person, title)) {
                    bits |= 1 << person;
                }
            }
            return bits;
        }

        void come(int person, int title) {
            if (lacks(person, title)) {
                titles[person] |= 1 << title;
                since[person * TITLES + title] = year;
            }
        }

        void go(int person, int title) {
            if (bears(person, title)) {
                titles[person] &= ~(1 << title);
                spans.grow();
                spans.set(0, person);
                spans.set(1, title);
                spans.set(2, since[person * TITLES + title]);
                spans.set(3, year);
            }
        }

        int signers(int title, int then) {
            int bits = 0;
            for (int k = 0; k < spans.size; k++) {
                if (spans.get(k, 1) == title && spans.get(k, 2) <= then
                        && then <= spans.get(k, 3)) {
                    bits |= 1 << spans.get(k, 0);
                }
            }
            for (int person = 0; person < land.persons.size; person++) {
                if (bears(person, title) && since[person * TITLES + title] <= then
                        && then <= year) {
                    bits |= 1 << person;
                }
            }
            return bits;
        }

        int count(int row, int letter) {
            return row >= 0 && row <= HEAP && letter >= 0 && letter < LETTERS
                    ? loose[row * LETTERS + letter] : 0;
        }

        void change(int row, int letter, int by) {
            if (row >= 0 && row <= HEAP && letter >= 0 && letter < LETTERS) {
                loose[row * LETTERS + letter] += by;
            }
        }

        /** The letters of a title come loose to a row. */
        void scatter(int title, int row) {
            int name = land.titles.name(title);
            int length = Roll.lengthOf(name);
            for (int k = 0; k < length; k++) {
                change(row, Roll.letterOf(name, k), 1);
            }
        }

        /** A title is made of loose letters; what lacks is out of the heap. */
        void gather(int title, int person) {
            int name = land.titles.name(title);
            int length = Roll.lengthOf(name);
            for (int k = 0; k < length; k++) {
                int letter = Roll.letterOf(name, k);
                change(count(person, letter) > 0 ? person : HEAP, letter, -1);
            }
        }

        void pourLoose(int person) {
            for (int letter = 0; letter < LETTERS; letter++) {
                int count = count(person, letter);
                change(person, letter, -count);
                change(HEAP, letter, count);
            }
        }

        int looseLetters(int row) {
            int sum = 0;
            for (int letter = 0; letter < LETTERS; letter++) {
                sum += count(row, letter);
            }
            return sum;
        }

        int looseOunces(int row) {
            int sum = 0;
            for (int letter = 0; letter < LETTERS; letter++) {
                sum += count(row, letter) * land.ouncesOf(letter);
            }
            return sum;
        }

        int loadOf(int person) {
            return land.ouncesOfSet(titlesOf(person)) + looseOunces(person);
        }

        int coatOunces() {
            int sum = 0;
            for (int person = 0; person < land.persons.size; person++) {
                sum += loadOf(person);
            }
            return sum;
        }

        int bulletOunces() {
            int sum = 0;
            for (int i = 0; i < bulletCount && i < BULLETS; i++) {
                sum += bullets[i];
            }
            return sum;
        }

        int honourOf(int person) {
            return land.honourOfSet(titlesOf(person));
        }

        int ageOf(int person) {
            return Math.max(0, year - land.persons.get(person, Land.BORN));
        }

        int limitOf(int person) {
            int lifts = land.persons.get(person, Land.LIFTS);
            int age = ageOf(person);
            abacus.tell(Abacus.PERSON, person);
            abacus.tell(Abacus.OLD, age);
            abacus.tell(Abacus.FORCE, lifts);
            abacus.tell(Abacus.HONOUR, honourOf(person));
            abacus.tell(Abacus.NAMES, Integer.bitCount(titlesOf(person)));
            int limit = lifts * land.partsAt(age) / 100 + abacus.firstLaw(land);
            return Math.max(0, Math.min(MOST_LIMIT, limit));
        }

        /** The ounces that a gain would take out of the heap; NONE if it can't be. */
        int gainOunces(int person, int title) {
            if (!lacks(person, title)) {
                return NONE;
            }
            int name = land.titles.name(title);
            int length = Roll.lengthOf(name);
            int sum = 0;
            for (int k = 0; k < length; k++) {
                int letter = Roll.letterOf(name, k);
                int missing = land.rankOf(title, k) - count(person, letter);
                if (missing > count(HEAP, letter)) {
                    return NONE;
                }
                sum += missing > 0 ? land.ouncesOf(letter) : 0;
            }
            return loadOf(person) + sum <= limitOf(person) ? sum : NONE;
        }

        /** The first title of a person, by numbers, that has a letter; NONE without. */
        int titleWith(int person, int letter) {
            for (int title = 0; title < land.titles.size; title++) {
                if (bears(person, title) && isIn(land.titles.name(title), letter)) {
                    return title;
                }
            }
            return NONE;
        }

        private static boolean isIn(int name, int letter) {
            int length = Roll.lengthOf(name);
            for (int k = 0; k < length; k++) {
                if (Roll.letterOf(name, k) == letter) {
                    return true;
                }
            }
            return false;
        }

        private void countLetters(int person, int[] row) {
            for (int letter = 0; letter < LETTERS && letter < row.length; letter++) {
                row[letter] = count(person, letter);
            }
            for (int title = 0; title < land.titles.size; title++) {
                int name = bears(person, title) ? land.titles.name(title) : 0;
                int length = Roll.lengthOf(name);
                for (int k = 0; k < length; k++) {
                    int letter = Roll.letterOf(name, k);
                    if (letter >= 0 && letter < row.length) {
                        row[letter]++;
                    }
                }
            }
        }

        int calledBy(int person) {
            countLetters(person, ownLetters);
            int bits = 0;
            for (int title = 0; title < land.titles.size; title++) {
                if (canLay(title)) {
                    bits |= 1 << title;
                }
            }
            return bits;
        }

        private boolean canLay(int title) {
            int name = land.titles.name(title);
            int length = Roll.lengthOf(name);
            for (int k = 0; k < length; k++) {
                int letter = Roll.letterOf(name, k);
                if (letter < 0 || letter >= LETTERS
                        || land.rankOf(title, k) > ownLetters[letter]) {
                    return false;
                }
            }
            return true;
        }

        int sharedOunces(int first, int second) {
            countLetters(first, ownLetters);
            countLetters(second, otherLetters);
            int sum = 0;
            for (int letter = 0; letter < LETTERS; letter++) {
                sum += Math.min(ownLetters[letter], otherLetters[letter]) * land.ouncesOf(letter);
            }
            return sum;
        }
    }

    /** What people do with lead, each act with its move; loans; the draws of feasts. */
    private static final class Acts {
        static final int GAIN = 0;
        static final int SHED = 1;
        static final int STEAL = 2;
        static final int TRADE = 3;
        static final int LEND = 4;
        static final int GIVE_BACK = 5;
        static final int DROWN = 6;
        static final int MELT = 7;
        static final int HEIR = 8;
        static final int MOVES = 60;
        static final int LOANS = 20;
        static final int LENDER = 0;
        static final int BORROWER = 1;
        static final int LENT = 2;
        static final int LOAN_WIDTH = 3;
        static final int MOST_YEARS = 60;

        final Coats coats;
        final Search search;
        final Ring moves;
        final Roll loans;
        long seed;

        Acts(Coats coats, Search search) {
            this.coats = coats;
            this.search = search;
            moves = new Ring(MOVES, 5);
            loans = new Roll(LOANS, LOAN_WIDTH);
            seed = 1;
        }

        void forget() {
            moves.clear();
            loans.size = 0;
        }

        private void note(int kind, int who, int other, int ounces) {
            moves.grow();
            moves.set(0, coats.year);
            moves.set(1, kind);
            moves.set(2, who);
            moves.set(3, other);
            moves.set(4, ounces);
        }

        int makeTitle(int person, int title) {
            int ounces = coats.gainOunces(person, title);
            if (ounces == NONE) {
                return NONE;
            }
            coats.gather(title, person);
            coats.come(person, title);
            note(GAIN, person, NONE, ounces);
            return coats.loadOf(person);
        }

        int dropTitle(int person, int title) {
            if (!coats.bears(person, title)) {
                return NONE;
            }
            coats.go(person, title);
            coats.scatter(title, Coats.HEAP);
            note(SHED, person, NONE, coats.land.titleOunces(title));
            return coats.loadOf(person);
        }

        boolean takeLetter(int thief, int from, int letter) {
            if (!coats.isPerson(thief) || !coats.isPerson(from) || thief == from
                    || letter == NONE) {
                return false;
            }
            if (coats.count(from, letter) <= 0) {
                int title = coats.titleWith(from, letter);
                if (title == NONE) {
                    return false;
                }
                coats.go(from, title);
                coats.scatter(title, from);
            }
            coats.change(from, letter, -1);
            coats.change(thief, letter, 1);
            note(STEAL, thief, from, coats.land.ouncesOf(letter));
            return true;
        }

        boolean swapLetters(int first, int given, int second, int gotten) {
            if (!coats.isPerson(first) || !coats.isPerson(second) || first == second
                    || given == NONE || gotten == NONE || given == gotten
                    || coats.count(first, given) <= 0 || coats.count(second, gotten) <= 0) {
                return false;
            }
            coats.change(first, given, -1);
            coats.change(second, given, 1);
            coats.change(second, gotten, -1);
            coats.change(first, gotten, 1);
            note(TRADE, first, second, coats.land.ouncesOf(given));
            return true;
        }

        int lendTitle(int from, int to, int title) {
            if (loans.isFull() || !coats.bears(from, title) || !coats.lacks(to, title)) {
                return NONE;
            }
            int ounces = coats.land.titleOunces(title);
            if (coats.loadOf(to) + ounces > coats.limitOf(to)) {
                return NONE;
            }
            coats.go(from, title);
            coats.come(to, title);
            int loan = loans.add(0);
            loans.put(loan, LENDER, from);
            loans.put(loan, BORROWER, to);
            loans.put(loan, LENT, title);
            note(LEND, from, to, ounces);
            return loans.size;
        }

        boolean canUndo(int k) {
            int title = loans.get(k, LENT);
            return coats.bears(loans.get(k, BORROWER), title)
                    && coats.lacks(loans.get(k, LENDER), title);
        }

        boolean undoLoan(int k) {
            if (!canUndo(k)) {
                return false;
            }
            int lender = loans.get(k, LENDER);
            int borrower = loans.get(k, BORROWER);
            int title = loans.get(k, LENT);
            coats.go(borrower, title);
            coats.come(lender, title);
            loans.remove(k);
            note(GIVE_BACK, borrower, lender, coats.land.titleOunces(title));
            return true;
        }

        int sinkCoat(int person) {
            if (!coats.isPerson(person)) {
                return NONE;
            }
            int ounces = coats.loadOf(person);
            for (int title = 0; title < coats.land.titles.size; title++) {
                coats.go(person, title);
            }
            for (int letter = 0; letter < LETTERS; letter++) {
                coats.change(person, letter, -coats.count(person, letter));
            }
            coats.river += ounces;
            note(DROWN, person, NONE, ounces);
            return ounces;
        }

        int castBullet(int person, int title) {
            if (!coats.bears(person, title) || coats.bulletCount >= BULLETS) {
                return NONE;
            }
            int ounces = coats.land.titleOunces(title);
            coats.go(person, title);
            coats.bullets[coats.bulletCount] = ounces;
            coats.bulletCount++;
            note(MELT, person, NONE, ounces);
            return coats.bulletCount;
        }

        int inherit(int from, int to) {
            if (!coats.isPerson(from) || !coats.isPerson(to) || from == to) {
                return NONE;
            }
            int room = Math.max(0, coats.limitOf(to) - coats.loadOf(to));
            int offered = coats.titlesOf(from) & ~coats.titlesOf(to);
            int set = search.bestSet(coats.land, offered, room);
            for (int title = 0; title < coats.land.titles.size; title++) {
                if (coats.bears(from, title)) {
                    coats.go(from, title);
                    if ((set >> title & 1) != 0) {
                        coats.come(to, title);
                    } else {
                        coats.scatter(title, Coats.HEAP);
                    }
                }
            }
            coats.pourLoose(from);
            note(HEIR, from, to, coats.land.ouncesOfSet(set));
            return set;
        }

        int passYears(int n) {
            if (n < 1 || n > MOST_YEARS) {
                return NONE;
            }
            int shed = 0;
            for (int i = 0; i < n; i++) {
                coats.year = Math.min(LAST_YEAR, coats.year + 1);
                for (int person = 0; person < coats.land.persons.size; person++) {
                    shed += lighten(person);
                }
            }
            return shed;
        }

        private int lighten(int person) {
            int limit = coats.limitOf(person);
            if (coats.loadOf(person) <= limit) {
                return 0;
            }
            coats.pourLoose(person);
            if (coats.loadOf(person) <= limit) {
                return 0;
            }
            int kept = search.bestSet(coats.land, coats.titlesOf(person), limit);
            int shed = 0;
            for (int title = 0; title < coats.land.titles.size; title++) {
                if ((kept >> title & 1) == 0 && dropTitle(person, title) != NONE) {
                    shed++;
                }
            }
            return shed;
        }

        /** How many titles a person could gain now. */
        int gainable(int person) {
            int count = 0;
            for (int title = 0; title < coats.land.titles.size; title++) {
                count += coats.gainOunces(person, title) == NONE ? 0 : 1;
            }
            return count;
        }

        /** The title at a place, from 1 on, among those that a person could gain. */
        int gainableAt(int person, int place) {
            int count = 0;
            for (int title = 0; title < coats.land.titles.size; title++) {
                count += coats.gainOunces(person, title) == NONE ? 0 : 1;
                if (count == place) {
                    return title;
                }
            }
            return NONE;
        }

        int draw(int n) {
            seed = (1103515245L * seed + 12345L) % 2147483648L;
            return n <= 0 ? 0 : (int) (seed / 64 % n);
        }

        boolean sow(int to) {
            if (to < 0) {
                return false;
            }
            seed = to;
            return true;
        }
    }

    /** Searches through sets: of titles, of bullets, of groups that go over a bridge. */
    private static final class Search {
        static final int SEEN_BULLETS = 16;

        final int[] ounces;
        final int[] honours;
        final int[] honourLeft;
        final int[] bullets;
        final int[] bulletsBelow;
        final int[] loads;
        final int[] groups;
        int offered;
        int count;
        int bestBits;
        int bestHonour;
        int found;
        int first;
        int capacity;
        int fewest;

        Search() {
            ounces = new int[TITLES];
            honours = new int[TITLES];
            honourLeft = new int[TITLES + 1];
            bullets = new int[SEEN_BULLETS];
            bulletsBelow = new int[SEEN_BULLETS + 1];
            loads = new int[PERSONS];
            groups = new int[PERSONS];
        }

        /** The best set of some titles in so many ounces. */
        int bestSet(Land land, int set, int room) {
            offered = set;
            count = Math.min(TITLES, land.titles.size);
            honourLeft[count] = 0;
            for (int title = count - 1; title >= 0; title--) {
                boolean isOffered = (set >> title & 1) != 0;
                ounces[title] = land.titleOunces(title);
                honours[title] = land.titles.get(title, Land.HONOUR);
                honourLeft[title] = honourLeft[title + 1] + (isOffered ? honours[title] : 0);
            }
            bestBits = 0;
            bestHonour = 0;
            choose(0, 0, 0, room);
            return bestBits;
        }

        private void choose(int title, int bits, int honour, int room) {
            if (title < 0 || title >= count) {
                compare(bits, honour);
                return;
            }
            if (honour + honourLeft[title] < bestHonour) {
                return;
            }
            if ((offered >> title & 1) != 0 && ounces[title] <= room) {
                choose(title + 1, bits | 1 << title, honour + honours[title],
                        room - ounces[title]);
            }
            choose(title + 1, bits, honour, room);
        }

        private void compare(int bits, int honour) {
            int fewer = Integer.bitCount(bestBits) - Integer.bitCount(bits);
            if (honour > bestHonour
                    || honour == bestHonour && (fewer > 0 || fewer == 0 && bits < bestBits)) {
                bestBits = bits;
                bestHonour = honour;
            }
        }

        /** Sets of the first bullets with so many ounces: found tells how many, first the least. */
        void seekBullets(int[] all, int size, int wanted) {
            int seen = Math.max(0, Math.min(SEEN_BULLETS, Math.min(size, all.length)));
            bulletsBelow[0] = 0;
            for (int i = 0; i < seen; i++) {
                bullets[i] = all[i];
                bulletsBelow[i + 1] = bulletsBelow[i] + all[i];
            }
            found = 0;
            first = NONE;
            collect(seen, wanted, 0);
        }

        /**
         * Goes from the last bullet down, without it ahead of with it, so that sets come in the
         * order of their bits. As every bullet has an ounce or more, none joins where all is there.
         */
        private void collect(int below, int wanted, int bits) {
            if (wanted == 0) {
                found++;
                first = first == NONE ? bits : first;
                return;
            }
            if (below <= 0 || below > SEEN_BULLETS || wanted < 0 || bulletsBelow[below] < wanted) {
                return;
            }
            int bullet = below - 1;
            collect(bullet, wanted, bits);
            collect(bullet, wanted - bullets[bullet], bits | 1 << bullet);
        }

        int fewestGroups(Coats coats, int persons, int bears) {
            count = 0;
            capacity = bears;
            for (int person = 0; person < PERSONS; person++) {
                if ((persons >> person & 1) != 0) {
                    int load = coats.loadOf(person);
                    if (load > bears) {
                        return NONE;
                    }
                    loads[count] = load;
                    count++;
                }
            }
            fewest = count;
            place(0, 0);
            return fewest;
        }

        /** Puts one after the other into each group that is there, or into a new one. */
        private void place(int next, int used) {
            if (next < 0 || next >= count || next >= PERSONS) {
                fewest = Math.min(fewest, used);
                return;
            }
            for (int group = 0; group < used && group < PERSONS; group++) {
                if (groups[group] + loads[next] <= capacity) {
                    groups[group] += loads[next];
                    place(next + 1, used);
                    groups[group] -= loads[next];
                }
            }
            // Each alone in a group can always be: only fewer groups than known are worth a try.
            if (used + 1 < fewest && used < PERSONS) {
                groups[used] = loads[next];
                place(next + 1, used + 1);
            }
        }
    }

    /** The bytes of an image, and the way back from a tape that has them. */
    private static final class Image {
        static final int PERSON_BYTES = 2 + 2 * LETTERS;
        static final int HEAP_BYTES = 2 * LETTERS;
        static final int MOST_BYTES = 2 + PERSONS * PERSON_BYTES + HEAP_BYTES + 4 + 2 * BULLETS + 1;
        static final int MOST_LEAD = 9999999;
        static final int MOST_LETTERS = 9999;

        final int[] bytes;
        int length;

        Image() {
            bytes = new int[MOST_BYTES];
            length = 0;
        }

        void write(Coats coats) {
            length = 0;
            put(coats.year, 2);
            for (int person = 0; person < coats.land.persons.size; person++) {
                put(coats.titlesOf(person), 2);
                putLetters(coats, person);
            }
            putLetters(coats, Coats.HEAP);
            put(coats.river, 3);
            put(coats.bulletCount, 1);
            for (int i = 0; i < coats.bulletCount && i < BULLETS; i++) {
                put(coats.bullets[i], 2);
            }
            put(seal(bytes, length), 1);
        }

        private void putLetters(Coats coats, int row) {
            for (int letter = 0; letter < LETTERS; letter++) {
                put(coats.count(row, letter), 2);
            }
        }

        private void put(int number, int width) {
            for (int shift = 8 * (width - 1); shift >= 0 && length < MOST_BYTES; shift -= 8) {
                bytes[length] = number >> shift & 255;
                length++;
            }
        }

        private static int seal(int[] row, int count) {
            int c = 41;
            for (int i = 0; i < count && i < row.length; i++) {
                c = (3 * c + row[i]) % 239;
            }
            return c;
        }

        private static int number(int[] row, int at, int width) {
            int value = 0;
            for (int i = at; i < at + width; i++) {
                value = value << 8 | (i >= 0 && i < row.length ? row[i] : 0);
            }
            return value;
        }

        private static int heapStart(Coats coats) {
            return 2 + coats.land.persons.size * PERSON_BYTES;
        }

        private static int riverStart(Coats coats) {
            return heapStart(coats) + HEAP_BYTES;
        }

        static boolean fits(int[] row, int count, Coats coats) {
            int river = riverStart(coats);
            if (count < river + 5 || count > row.length) {
                return false;
            }
            int bullets = number(row, river + 3, 1);
            return bullets <= BULLETS && count == river + 5 + 2 * bullets
                    && seal(row, count - 1) == number(row, count - 1, 1)
                    && number(row, 0, 2) <= LAST_YEAR
                    && hasKnownTitles(row, coats) && hasRightBullets(row, river + 4, bullets)
                    && isLightEnough(row, coats);
        }

        private static boolean hasKnownTitles(int[] row, Coats coats) {
            for (int person = 0; person < coats.land.persons.size; person++) {
                if (number(row, 2 + person * PERSON_BYTES, 2) > coats.land.allTitles()) {
                    return false;
                }
            }
            return true;
        }

        private static boolean hasRightBullets(int[] row, int start, int bullets) {
            for (int i = 0; i < bullets; i++) {
                if (number(row, start + 2 * i, 2) < 1) {
                    return false;
                }
            }
            return true;
        }

        private static boolean isLightEnough(int[] row, Coats coats) {
            Land land = coats.land;
            int river = riverStart(coats);
            long lead = number(row, river, 3);
            long letters = 0;
            int bullets = number(row, river + 3, 1);
            for (int i = 0; i < bullets; i++) {
                lead += number(row, river + 4 + 2 * i, 2);
            }
            for (int person = 0; person <= land.persons.size; person++) {
                int start = 2 + person * PERSON_BYTES;
                // The heap stands behind the last person, without titles.
                boolean isHeap = person == land.persons.size;
                int set = isHeap ? 0 : number(row, start, 2);
                lead += land.ouncesOfSet(set);
                letters += lettersOfSet(land, set);
                for (int letter = 0; letter < LETTERS; letter++) {
                    int pile = number(row, start + (isHeap ? 0 : 2) + 2 * letter, 2);
                    lead += (long) pile * land.ouncesOf(letter);
                    letters += pile;
                }
            }
            return lead <= MOST_LEAD && letters <= MOST_LETTERS;
        }

        private static int lettersOfSet(Land land, int set) {
            int sum = 0;
            for (int title = 0; title < land.titles.size; title++) {
                sum += (set >> title & 1) == 0 ? 0 : Roll.lengthOf(land.titles.name(title));
            }
            return sum;
        }

        /** Only for a row that fits. */
        static void restore(int[] row, Coats coats) {
            coats.year = number(row, 0, 2);
            for (int person = 0; person < coats.land.persons.size && person < PERSONS; person++) {
                int start = 2 + person * PERSON_BYTES;
                coats.titles[person] = number(row, start, 2);
                restoreLetters(row, start + 2, coats, person);
            }
            restoreLetters(row, heapStart(coats), coats, Coats.HEAP);
            int river = riverStart(coats);
            coats.river = number(row, river, 3);
            coats.bulletCount = Math.min(BULLETS, number(row, river + 3, 1));
            for (int i = 0; i < coats.bulletCount; i++) {
                coats.bullets[i] = number(row, river + 4 + 2 * i, 2);
            }
            coats.bearAnew();
        }

        private static void restoreLetters(int[] row, int start, Coats coats, int to) {
            for (int letter = 0; letter < LETTERS; letter++) {
                int pile = number(row, start + 2 * letter, 2);
                coats.change(to, letter, pile - coats.count(to, letter));
            }
        }
    }
}
