import java.util.Arrays;

/** Promises 26 to 37: what was, images, refusals. */
final class AskEdges {
    private static final int LEAST = Integer.MIN_VALUE;
    private static final int MOST = Integer.MAX_VALUE;
    private static final int[] NO_PERSON = {-1, 4, 5, 7, 8, 9, 32, LEAST, MOST};
    private static final int[] NO_TITLE = {-1, 5, 6, 11, 12, 32, LEAST, MOST};

    private AskEdges() {
    }

    static void tell(Edges doc) {
        tellSigned(doc);
        tellSpansAndMoves(doc);
        tellShare(doc);
        tellBullets(doc);
        tellRow(doc);
        tellGoingsAndCommon(doc);
        tellImage(doc);
        tellOn(doc);
        tellOnRefused(doc);
        tellStatus(doc);
    }

    private static void tellSigned(Edges doc) {
        doc.in("Promise 26");
        doc.holds("COULD SIGN: PERSONS as bits", () -> {
            LeadNames x = Check.landed(World.persons(8, 0) + "title a honour 0;title b honour 0;"
                    + World.many("has p# a;", 8) + "has ph b;");
            Check.same("all", x.signed(0, 0), 255);
            Check.same("the last", x.signed(1, 0), 128);
            Check.same("the year 999", x.signed(0, 999), 0);
            Check.same("now in 999", Picture.of(999, 1, 0, 0, 0).in(World.LAND).signed(0, 999), 1);
        });
        doc.holds("NONE if there is no such TITLE, or YEAR (0 .. 999).", () -> {
            LeadNames x = World.busy();
            for (int title : NO_TITLE) {
                Check.same("signed(" + title + ", 50)", x.signed(title, 50), -1);
            }
            int[] years = {-1, 1000, LEAST, MOST};
            for (int year : years) {
                Check.same("signed(0, " + year + ")", x.signed(0, year), -1);
            }
            Check.same("year 0", x.signed(0, 0), 0);
            Check.same("year 999", x.signed(0, 999), 0);
        });
    }

    private static void tellSpansAndMoves(Edges doc) {
        doc.in("Promise 27");
        doc.holds("Of the k-th SPAN that is over and kept, from the oldest on: 0 the PERSON, 1 the "
                + "TITLE, 2 from, 3 to.", () -> {
            LeadNames x = World.busy();
            int[][] due = {{1, 4, 50, 50}, {1, 2, 50, 51}, {1, 3, 50, 51}, {3, 1, 50, 51}};
            for (int k = 0; k < due.length; k++) {
                for (int what = 0; what < 4; what++) {
                    Check.same("span(" + k + ", " + what + ")", x.span(k, what), due[k][what]);
                }
            }
        });
        doc.holds("NONE if there is none such, or for others.", () -> {
            LeadNames x = World.busy();
            int[] none = {4, 5, 79, 80, -1, LEAST, MOST};
            for (int k : none) {
                Check.same("span(" + k + ", 0)", x.span(k, 0), -1);
                Check.same("span(" + k + ", 3)", x.span(k, 3), -1);
            }
            int[] others = {4, 5, -1, LEAST, MOST};
            for (int what : others) {
                Check.same("span(0, " + what + ")", x.span(0, what), -1);
            }
            // Those that are not over are none.
            Check.same("of titles that are had", World.fresh().span(0, 0), -1);
        });
        doc.in("Promise 28");
        doc.holds("Of the k-th MOVE that is kept, from the oldest on: 0 YEAR, 1 kind, 2 who, 3 the "
                + "other one, 4 ounces.", () -> {
            LeadNames x = World.busy();
            int[][] due = {{50, 4, 1, 0, 10}, {51, 2, 2, 1, 7}, {51, 7, 1, -1, 60},
                {51, 6, 3, -1, 12}};
            for (int k = 0; k < due.length; k++) {
                for (int what = 0; what < 5; what++) {
                    Check.same("moved(" + k + ", " + what + ")", x.moved(k, what), due[k][what]);
                }
            }
        });
        doc.holds("NONE if there is none such, or for others.", () -> {
            LeadNames x = World.busy();
            int[] none = {4, 5, 59, 60, -1, LEAST, MOST};
            for (int k : none) {
                Check.same("moved(" + k + ", 0)", x.moved(k, 0), -1);
                Check.same("moved(" + k + ", 4)", x.moved(k, 4), -1);
            }
            int[] others = {5, 6, -1, LEAST, MOST};
            for (int what : others) {
                Check.same("moved(0, " + what + ")", x.moved(0, what), -1);
            }
            Check.same("ahead of any", World.fresh().moved(0, 0), -1);
        });
    }

    private static void tellShare(Edges doc) {
        doc.in("Promise 29");
        doc.holds("WHOSE COAT, of n letters (0 .. 40) with k dented: the SHARE of a PERSON", () -> {
            LeadNames x = World.busy();
            // Dents 10, 20, 30, 40.
            Check.same("of no letters", x.share(3, 0, 0), 250);
            Check.same("one, dented", x.share(3, 1, 1), 400);
            Check.same("one, not dented", x.share(3, 1, 0), 200);
            Check.same("forty, none dented", x.share(0, 40, 0), 991);
            Check.same("forty, all dented", x.share(3, 40, 40), 0);
            Check.same("nine, all dented", x.share(3, 9, 9), 928);
        });
        doc.holds("NONE if something can't be.", () -> {
            LeadNames x = World.busy();
            for (int person : NO_PERSON) {
                Check.same("share(" + person + ", 1, 1)", x.share(person, 1, 1), -1);
            }
            int[][] none = {{-1, 0}, {-1, -1}, {41, 0}, {41, 41}, {0, 1}, {40, 41}, {3, 4},
                {3, -1}, {0, -1}, {LEAST, 0}, {MOST, 0}, {3, LEAST}, {3, MOST}};
            for (int[] n : none) {
                Check.same("share(0, " + n[0] + ", " + n[1] + ")", x.share(0, n[0], n[1]), -1);
            }
        });
    }

    private static void tellBullets(Edges doc) {
        doc.in("Promise 30");
        doc.holds("IN THE BULLETS: how many sets (what 0), the first one (1; NONE without), of so "
                + "many ounces (0 .. 99999).", () -> {
            LeadNames x = new Picture(0).shot(65535, 34464, 2, 1, 1).in("");
            Check.same("0: the set of none", x.bullets(0, 0), 1);
            Check.same("its number", x.bullets(0, 1), 0);
            Check.same("99999", x.bullets(99999, 0), 1);
            Check.same("its number", x.bullets(99999, 1), 3);
            Check.same("2", x.bullets(2, 0), 2);
            Check.same("the first one", x.bullets(2, 1), 4);
            Check.same("without", x.bullets(5, 0), 0);
            Check.same("the first one without", x.bullets(5, 1), -1);
        });
        doc.holds("NONE if it can't be, or for others.", () -> {
            LeadNames x = new Picture(0).shot(65535, 34465, 2, 1, 1).in("");
            int[] ounces = {100000, -1, LEAST, MOST};
            for (int n : ounces) {
                Check.same("bullets(" + n + ", 0)", x.bullets(n, 0), -1);
                Check.same("bullets(" + n + ", 1)", x.bullets(n, 1), -1);
            }
            int[] others = {2, 3, -1, LEAST, MOST};
            for (int what : others) {
                Check.same("bullets(2, " + what + ")", x.bullets(2, what), -1);
            }
        });
    }

    private static void tellRow(Edges doc) {
        doc.in("Promise 31");
        doc.holds("ON ONE ROW: how many letters (what 0), ounces (1), how many are shared (2).",
                () -> {
            LeadNames x = World.fresh();
            // Titles ab, ba, abc, ccc, d; ounces 5, 7, 20, 10.
            int[][] due = {{0, 1, 3, 17, 1}, {0, 2, 3, 32, 2}, {2, 3, 5, 72, 1}, {0, 4, 3, 22, 0},
                {1, 2, 4, 39, 1}};
            for (int[] n : due) {
                for (int what = 0; what < 3; what++) {
                    Check.same("row(" + n[0] + ", " + n[1] + ", " + what + ")",
                            x.row(n[0], n[1], what), n[2 + what]);
                    Check.same("row(" + n[1] + ", " + n[0] + ", " + what + ")",
                            x.row(n[1], n[0], what), n[2 + what]);
                }
            }
        });
        doc.holds("NONE if there are no such two (unlike ones), or for others.", () -> {
            LeadNames x = World.fresh();
            for (int title : NO_TITLE) {
                Check.same("row(0, " + title + ", 0)", x.row(0, title, 0), -1);
                Check.same("row(" + title + ", 0, 0)", x.row(title, 0, 0), -1);
                Check.same("row(" + title + ", same, 0)", x.row(title, title, 0), -1);
            }
            for (int what = 0; what < 3; what++) {
                Check.same("one title", x.row(1, 1, what), -1);
            }
            int[] others = {3, 4, -1, LEAST, MOST};
            for (int what : others) {
                Check.same("row(0, 1, " + what + ")", x.row(0, 1, what), -1);
            }
        });
    }

    private static void tellGoingsAndCommon(Edges doc) {
        doc.in("Promise 32");
        doc.holds("GOINGS; NONE if one alone is too heavy, or something can't be.", () -> {
            // The bridge bears 40; loads 22, 25, 7, 0.
            LeadNames x = World.busy();
            Check.same("two of them", x.goings(0, 3), 2);
            Check.same("all", x.goings(0, 15), 2);
            Check.same("none", x.goings(0, 0), 0);
            LeadNames y = Picture.of(50, 0, 0, 0, 0).with(0, "cc").with(1, "cca").in(World.LAND);
            Check.same("just 40", y.goings(0, 1), 1);
            Check.same("45 alone", y.goings(0, 2), -1);
            Check.same("45 among others", y.goings(0, 15), -1);
            Check.same("those without it", y.goings(0, 13), 1);
            int[] persons = {16, 17, 256, -1, LEAST, MOST, 1 << 30};
            for (int set : persons) {
                Check.same("goings(0, " + set + ")", x.goings(0, set), -1);
            }
            int[] bridges = {1, 4, -1, LEAST, MOST};
            for (int bridge : bridges) {
                Check.same("goings(" + bridge + ", 1)", x.goings(bridge, 1), -1);
                Check.same("goings(" + bridge + ", 0)", x.goings(bridge, 0), -1);
            }
        });
        doc.in("Promise 33");
        doc.holds("What two COATS (of unlike PERSONS) have in common: ounces of the letters, LOOSE "
                + "or in TITLES, that both have, each as often as both have it", () -> {
            LeadNames x = Picture.of(50, 3, 8, 0, 0).with(0, "cd").with(1, "aab").with(2, "aaaab")
                    .in(World.LAND);
            // ada: a 2, b 2, c, d; ben: c 3, a 2, b; cy: a 4, b.
            Check.same("a twice, b, c", x.common(0, 1), 10 + 7 + 20);
            Check.same("turned", x.common(1, 0), 37);
            Check.same("a twice, b", x.common(0, 2), 17);
            Check.same("with none", x.common(0, 3), 0);
            Check.same("of two bare ones", World.busy().common(3, 2), 0);
        });
        doc.holds("NONE if there are none such.", () -> {
            LeadNames x = World.busy();
            for (int person : NO_PERSON) {
                Check.same("common(0, " + person + ")", x.common(0, person), -1);
                Check.same("common(" + person + ", 0)", x.common(person, 0), -1);
                Check.same("common(" + person + ", same)", x.common(person, person), -1);
            }
            for (int person = 0; person < 4; person++) {
                Check.same("one person", x.common(person, person), -1);
            }
        });
    }

    private static void tellImage(Edges doc) {
        doc.in("Promise 34");
        doc.holds("AN IMAGE is written: how many bytes.", () -> {
            Check.same("of nothing", new LeadNames().image(), 59);
            Check.same("of four persons, one bullet", World.busy().image(), 59 + 4 * 54 + 2);
            int[] row = new int[30];
            Arrays.fill(row, 1);
            LeadNames x = new Picture(8).shot(row).in(World.persons(8, 0));
            Check.same("the longest", x.image(), 551);
            Check.same("its last byte", x.octet(550) >= 0, true);
            // It changes nothing: busy() has written one of the same state.
            State.alike(World::busy, LeadNames::image, y -> { });
        });
        doc.in("Promise 35");
        doc.holds("Byte k of the latest image()", () -> {
            Picture picture = Picture.of(300, 5, 1, 0, 0).with(0, "aac").with(-1, "bz")
                    .drowned(70000).shot(594, 65535);
            byte[] due = picture.bytes();
            LeadNames x = picture.in(World.LAND);
            x.image();
            for (int k = 0; k < due.length; k++) {
                Check.same("octet(" + k + ")", x.octet(k), due[k] & 255);
            }
            x.years(1);
            Check.same("not of what is now", x.octet(1), 44);
            x.image();
            Check.same("the latest", x.octet(1), 45);
            x.land();
            Check.same("also behind a land", x.octet(1), 45);
            x.image();
            Check.same("a shorter one", x.octet(58) >= 0, true);
            Check.same("has no more", x.octet(59), -1);
        });
        doc.holds("NONE if there is none such.", () -> {
            LeadNames x = new LeadNames();
            Check.same("ahead of any", x.octet(0), -1);
            x.image();
            int[] none = {59, 60, 550, 551, -1, LEAST, MOST};
            for (int k : none) {
                Check.same("octet(" + k + ")", x.octet(k), -1);
            }
        });
    }

    private static void tellOn(Edges doc) {
        doc.in("Promise 36");
        doc.holds("The tape (it goes) is AN IMAGE: true", () -> {
            LeadNames x = World.busy();
            Check.tape(x, Picture.of(50, 0, 0, 0, 0).bytes());
            Check.same("on", x.on(), true);
            Check.same("it went", x.end(1), false);
            Check.same("nothing is none", x.on(), false);
            Check.tape(x, "year 5;");
            Check.same("a land is none", x.on(), false);
            Check.same("it went too", x.end(1), false);
            LeadNames y = new LeadNames();
            Check.tape(y, new Picture(0).bytes());
            Check.same("of a new one", y.on(), true);
        });
        doc.holds("all is as it tells", () -> {
            Picture picture = Picture.of(999, 31, 1, 0, 2).with(0, "aac").with(3, "bz")
                    .with(-1, "bzz").drowned(70000).shot(594, 65535, 1);
            LeadNames x = World.busy();
            Check.same("on", picture.fits(x), true);
            Check.same("year", x.has(5), 999);
            int[] titles = {31, 1, 0, 2};
            int[] loose = {3, 0, 0, 2};
            for (int p = 0; p < 4; p++) {
                Check.same("titles", x.person(p, 4), titles[p]);
                Check.same("loose letters", x.person(p, 5), loose[p]);
            }
            Check.same("a", x.loose(0, 'a'), 2);
            Check.same("z", x.loose(3, 'z'), 1);
            Check.same("the heap's a", x.loose(-1, 'a'), 0);
            Check.same("the heap's z", x.loose(-1, 'z'), 2);
            Check.same("the river", x.lead(2), 70000);
            Check.same("bullets", x.has(7), 3);
            Check.same("their ounces", x.lead(3), 66130);
            Check.same("the third", x.bullets(1, 1), 4);
            Check.same("the same image", Arrays.equals(Check.image(x), picture.bytes()), true);
            LeadNames y = picture.in(World.LAND);
            Check.same("none of none", Picture.of(0, 0, 0, 0, 0).fits(y), true);
            Check.same("no lead at all", y.lead(4), 0);
            Check.same("no bullets", y.has(7), 0);
            Check.same("year", y.has(5), 0);
        });
        doc.holds("there are no LOANS, MOVES, SPANS that are over", () -> {
            LeadNames x = World.busy();
            Check.same("on", Picture.of(51, 0, 0, 0, 0).fits(x), true);
            Check.same("loans", x.has(6), 0);
            Check.same("loan", x.loan(0, 0), -1);
            Check.same("moves", x.has(8), 0);
            Check.same("move", x.moved(0, 0), -1);
            Check.same("span", x.span(0, 0), -1);
            Check.same("who signed", x.signed(4, 50), 0);
        });
        doc.holds("TITLES are BORNE from YEAR on", () -> {
            LeadNames x = World.busy();
            Check.same("on", Picture.of(40, 1, 0, 0, 0).fits(x), true);
            Check.same("that year", x.signed(0, 40), 1);
            Check.same("not ahead of it", x.signed(0, 39), 0);
            x.years(2);
            x.shed(0, 0);
            Check.same("from", x.span(0, 2), 40);
            Check.same("to", x.span(0, 3), 42);
        });
    }

    /** It is taken, and another one that differs in one thing is refused, and all stays. */
    private static void edge(String what, Picture taken, Picture refused) {
        Check.same(what + ": taken", taken.fits(World.busy()), true);
        refused(what, refused.bytes());
    }

    private static void refused(String what, byte[] bytes) {
        State.refused(World::busy, 5, 0, x -> {
            Check.tape(x, bytes);
            boolean taken = x.on();
            Check.same(what + ": refused", taken, false);
            Check.same(what + ": the tape went", x.feed(0, 0, 0, 0, 0), 20);
            x.end(0);
            return taken ? 1 : 0;
        });
    }

    private static Picture bare() {
        return Picture.of(50, 0, 0, 0, 0);
    }

    private static int[] ounces(int n, int each) {
        int[] row = new int[n];
        Arrays.fill(row, each);
        return row;
    }

    private static void tellOnRefused(Edges doc) {
        doc.holds("false if it is none", () -> {
            byte[] image = bare().shot(7).bytes();
            refused("nothing", new byte[0]);
            refused("one byte", new byte[1]);
            refused("a byte too few", Arrays.copyOf(image, image.length - 1));
            refused("a byte too many", Check.sealed(Arrays.copyOf(image, image.length + 1)));
            refused("a full tape", new byte[1600]);
            for (int place = 0; place < image.length; place += 9) {
                byte[] other = image.clone();
                other[place] ^= 1;
                refused("byte " + place, other);
            }
            byte[] last = image.clone();
            last[image.length - 1] ^= 1;
            refused("the last byte", last);
            refused("a last byte that is like it mod 239", likeMod239());
            byte[] nought = endsIn(0);
            LeadNames x = World.busy();
            Check.tape(x, nought);
            Check.same("a last byte of 0", x.on(), true);
            byte[] lacks = bare().bytes();
            lacks[lacks.length - 2] = 1;
            refused("a bullet that lacks", Check.sealed(lacks));
            byte[] more = bare().shot(7).bytes();
            more[more.length - 4] = 0;
            refused("a bullet that is not told", Check.sealed(more));
        });
        doc.holds("(of as many PERSONS", () -> {
            edge("four", bare(), Picture.of(50, 0, 0, 0, 0, 0));
            edge("four", bare(), Picture.of(50, 0, 0, 0));
            refused("none", new Picture(0).bytes());
        });
        doc.holds("no TITLES but those there are", () -> {
            edge("five", Picture.of(50, 31, 31, 31, 31), Picture.of(50, 32, 0, 0, 0));
            edge("five", Picture.of(50, 0, 0, 0, 31), Picture.of(50, 0, 0, 0, 32));
            refused("with others", Picture.of(50, 33, 0, 0, 0).bytes());
            refused("the highest bit", Picture.of(50, 32768, 0, 0, 0).bytes());
            String twelve = World.persons(1, 0) + World.many("title # honour 0;", 12);
            Check.same("twelve", Picture.of(0, 4095).fits(Check.landed(twelve)), true);
            Check.same("a 13th", Picture.of(0, 4096).fits(Check.landed(twelve)), false);
            Check.same("none", Picture.of(0, 0).fits(Check.landed(World.persons(1, 0))), true);
            Check.same("one of none", Picture.of(0, 1).fits(Check.landed(World.persons(1, 0))),
                    false);
        });
        doc.holds("YEAR 999 at most", () -> {
            edge("999", Picture.of(999, 0, 0, 0, 0), Picture.of(1000, 0, 0, 0, 0));
            refused("65535", Picture.of(65535, 0, 0, 0, 0).bytes());
        });
        doc.holds("30 BULLETS at most", () -> {
            edge("thirty", bare().shot(ounces(30, 1)), bare().shot(ounces(31, 1)));
            refused("255", bare().shot(ounces(255, 1)).bytes());
        });
        doc.holds("each of 1 ounce or more", () -> {
            edge("one", bare().shot(1), bare().shot(0));
            edge("the last", bare().shot(5, 5, 1), bare().shot(5, 5, 0));
            edge("the first", bare().shot(256, 5), bare().shot(0, 5));
        });
        doc.holds("all LEAD together 9999999 ounces at most", () -> {
            edge("the river", bare().drowned(9999999), bare().drowned(10000000));
            // With a (5) in a coat, z (10) in the heap, ab (12), a bullet of 7.
            Picture taken = Picture.of(50, 0, 0, 0, 1).with(2, "a").with(-1, "z").shot(7);
            Picture refused = Picture.of(50, 0, 0, 0, 1).with(2, "a").with(-1, "z").shot(7);
            edge("all together", taken.drowned(9999999 - 34), refused.drowned(9999999 - 33));
            Picture heavy = bare().shot(65535, 7, 600, 1);
            Picture heavier = bare().shot(65535, 7, 600, 1);
            edge("with bullets", heavy.drowned(9999999 - 66143), heavier.drowned(9999999 - 66142));
            refused("the most of three bytes", bare().drowned(0xffffff).bytes());
        });
        doc.holds("and of letters, in TITLES, LOOSE and in THE HEAP, 9999 at most", () -> {
            Picture taken = Picture.of(50, 4, 1, 0, 0).with(3, "zzz");
            Picture refused = Picture.of(50, 4, 1, 0, 0).with(3, "zzz");
            taken.heap[25] = 9999 - 3 - 2 - 3;
            refused.heap[25] = 9999 - 3 - 2 - 2;
            edge("all together", taken, refused);
            Picture most = bare();
            most.loose[0][0] = 9999;
            Picture more = bare();
            more.loose[0][0] = 10000;
            edge("of one kind in a coat", most, more);
            Picture all = bare();
            Arrays.fill(all.heap, 65535);
            refused("the most of two bytes each", all.bytes());
        });
        doc.holds("9999 at most; all stays).", () -> {
            LeadNames x = World.busy();
            byte[] ahead = Check.image(x);
            Check.tape(x, Picture.of(1000, 31, 31, 31, 31).with(-1, "zz").drowned(5).shot(0)
                    .bytes());
            Check.same("on", x.on(), false);
            Check.same("loans", x.has(6), 1);
            Check.same("moves", x.has(8), 4);
            Check.same("the same image", Arrays.equals(Check.image(x), ahead), true);
        });
    }

    /** An image with such a last byte, which is due. */
    private static byte[] endsIn(int last) {
        int year = 0;
        byte[] image = bare().bytes();
        while (image[image.length - 1] != last) {
            image = Picture.of(year, 0, 0, 0, 0).bytes();
            year++;
        }
        return image;
    }

    /** An image with 239 more than is due in its last byte. */
    private static byte[] likeMod239() {
        byte[] image = endsIn(5);
        image[image.length - 1] += (byte) 239;
        return image;
    }

    private static void tellStatus(Edges doc) {
        doc.in("Promise 37");
        doc.holds("REFUSALS so far: 0 of feed() and end(), 1 of land(), 2 of gain(), shed(), "
                + "steal(), trade(), 3 of lend(), giveBack(), drown(), melt(), heir(), 4 of "
                + "years(), seed(), 5 of on().", AskEdges::refusals);
        doc.holds("NONE for others.", () -> {
            int[] others = {6, 7, -1, LEAST, MOST};
            for (int what : others) {
                Check.same("status(" + what + ")", World.busy().status(what), -1);
            }
        });
    }

    private static void counts(String what, LeadNames x, int... due) {
        for (int kind = 0; kind < due.length; kind++) {
            Check.same(what + ": status(" + kind + ")", x.status(kind), due[kind]);
        }
    }

    private static void refusals() {
        LeadNames x = new LeadNames();
        counts("a new one", x, 0, 0, 0, 0, 0, 0);
        x.end(-1);
        counts("end", x, 1, 0, 0, 0, 0, 0);
        for (int i = 0; i < 81; i++) {
            x.feed(-1, -1, -1, -1, -1);
        }
        counts("feed", x, 2, 0, 0, 0, 0, 0);
        x.land();
        counts("land", x, 2, 1, 0, 0, 0, 0);
        x.gain(0, 0);
        counts("gain", x, 2, 1, 1, 0, 0, 0);
        x.shed(0, 0);
        counts("shed", x, 2, 1, 2, 0, 0, 0);
        x.steal(0, 1, 'a');
        counts("steal", x, 2, 1, 3, 0, 0, 0);
        x.trade(0, 'a', 1, 'b');
        counts("trade", x, 2, 1, 4, 0, 0, 0);
        x.lend(0, 1, 0);
        counts("lend", x, 2, 1, 4, 1, 0, 0);
        x.giveBack(0);
        counts("giveBack", x, 2, 1, 4, 2, 0, 0);
        x.drown(0);
        counts("drown", x, 2, 1, 4, 3, 0, 0);
        x.melt(0, 0);
        counts("melt", x, 2, 1, 4, 4, 0, 0);
        x.heir(0, 1);
        counts("heir", x, 2, 1, 4, 5, 0, 0);
        x.years(0);
        counts("years", x, 2, 1, 4, 5, 1, 0);
        x.seed(-1);
        counts("seed", x, 2, 1, 4, 5, 2, 0);
        x.on();
        counts("on", x, 2, 1, 4, 5, 2, 1);
        questions(x);
        counts("questions are none", x, 2, 1, 4, 5, 2, 1);
        State.alike(World::busy, AskEdges::questions, y -> { });
        x.end(0);
        x.land();
        x.years(1);
        x.seed(1);
        x.feast();
        x.image();
        counts("nor what is done", x, 2, 1, 4, 5, 2, 1);
    }

    private static void questions(LeadNames x) {
        x.fault(9);
        x.has(9);
        x.letter(9, 9, 9);
        x.ounces(9);
        x.title(9, 9);
        x.person(9, 9);
        x.loose(9, 9);
        x.lead(9);
        x.loan(9, 9);
        x.signed(9, 9);
        x.span(9, 9);
        x.moved(9, 9);
        x.share(9, 9, 9);
        x.bullets(-1, 9);
        x.row(9, 9, 9);
        x.goings(9, 9);
        x.common(9, 9);
        x.octet(9);
        x.status(9);
        x.person(0, 6);
        x.person(1, 8);
        x.bullets(60, 1);
        x.row(0, 1, 1);
        x.goings(0, 7);
        x.common(0, 1);
        x.signed(0, 50);
    }
}
