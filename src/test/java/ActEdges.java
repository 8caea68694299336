/** Promises 9 to 25: titles, persons, lead, and what each act answers, refused ones too. */
final class ActEdges {
    private static final int LEAST = Integer.MIN_VALUE;
    private static final int MOST = Integer.MAX_VALUE;
    /** No person of World, whatever one might take the heap for; no title of it. */
    private static final int[] NO_PERSON = {-1, 4, 5, 7, 8, 9, 32, LEAST, MOST};
    private static final int[] NO_TITLE = {-1, 5, 6, 11, 12, 32, LEAST, MOST};
    private static final int[] NO_LETTER = {96, 123, 0, -1, 'A', LEAST, MOST, LEAST + 97};

    private ActEdges() {
    }

    static void tell(Edges doc) {
        tellTitle(doc);
        tellPerson(doc);
        tellLead(doc);
        tellGainAndShed(doc);
        tellStealAndTrade(doc);
        tellLoans(doc);
        tellCoats(doc);
        tellTime(doc);
    }

    private static void tellTitle(Edges doc) {
        doc.in("Promise 9");
        doc.holds("Of a TITLE: 0 OUNCES, 1 honour, 2 how many letters, 3 who has it (bits).",
                () -> {
            LeadNames x = Check.landed("letter a 99;title aaaaaa honour 999;title b honour 0;"
                    + World.persons(8, 0) + World.many("has p# b;", 8));
            int[] first = {594, 999, 6, 0};
            int[] second = {10, 0, 1, 255};
            for (int what = 0; what < 4; what++) {
                Check.same("title(0, " + what + ")", x.title(0, what), first[what]);
                Check.same("title(1, " + what + ")", x.title(1, what), second[what]);
            }
        });
        doc.holds("NONE if there is none such, or for others.", () -> {
            LeadNames x = World.busy();
            for (int title : NO_TITLE) {
                for (int what = 0; what < 4; what++) {
                    Check.same("title(" + title + ", " + what + ")", x.title(title, what), -1);
                }
            }
            int[] others = {4, 5, -1, LEAST, MOST};
            for (int what : others) {
                Check.same("title(0, " + what + ")", x.title(0, what), -1);
            }
        });
    }

    private static void tellPerson(Edges doc) {
        doc.in("Promise 10");
        doc.holds("Of a PERSON: 0 AGE, 1 LIMIT, 2 LOAD, 3 HONOUR, 4 its TITLES (bits), 5 how many "
                + "LOOSE letters, 6 THE BEST SET of all TITLES in its LIMIT (bits), 7 the honour "
                + "of that, 8 CALLED (bits).", () -> {
            Picture picture = Picture.of(51, 1, 20, 0, 0).with(1, "abb");
            // In 60 ccc has 30; in 0 there is none; in 120 all but ab and d have 45, with ab 50.
            int[][] due = {{41, 60, 12, 5, 1, 0, 8, 30, 3}, {31, 120, 61, 9, 20, 3, 15, 50, 23},
                {0, 0, 0, 0, 0, 0, 0, 0, 0}};
            LeadNames x = picture.in(World.LAND);
            for (int p = 0; p < due.length; p++) {
                for (int what = 0; what < 9; what++) {
                    Check.same("person(" + p + ", " + what + ")", x.person(p, what),
                            due[p][what]);
                }
            }
        });
        doc.holds("6 THE BEST SET of all TITLES in its LIMIT (bits), 7 the honour of that", () -> {
            String land = "letter a 1;letter b 2;person p born 0 lifts # dents 0;title a honour 3;"
                    + "title b honour 4;title c honour 0;";
            int[][] due = {{0, 0}, {1, 3}, {2, 4}, {3, 7}, {3, 7}};
            for (int lifts = 0; lifts < due.length; lifts++) {
                LeadNames x = Picture.of(0, 7).with(0, "cc").in(land.replace("#", "" + lifts));
                Check.same("whatever it bears, in " + lifts, x.person(0, 6), due[lifts][0]);
                Check.same("its honour", x.person(0, 7), due[lifts][1]);
            }
            LeadNames y = Check.landed("person p born 0 lifts 9 dents 0;");
            Check.same("without titles", y.person(0, 6), 0);
            Check.same("its honour", y.person(0, 7), 0);
        });
        doc.holds("NONE if there is none such, or for others.", () -> {
            LeadNames x = World.busy();
            for (int person : NO_PERSON) {
                for (int what = 0; what < 9; what++) {
                    Check.same("person(" + person + ", " + what + ")", x.person(person, what), -1);
                }
            }
            int[] others = {9, 10, -1, LEAST, MOST};
            for (int what : others) {
                Check.same("person(0, " + what + ")", x.person(0, what), -1);
            }
        });
        doc.in("Promise 11");
        doc.holds("How many LOOSE letters of a kind (97 .. 122) a PERSON has, or (NONE) are in THE "
                + "HEAP", () -> {
            Picture picture = Picture.of(0, 1, 0, 0, 0).with(0, "azzz").with(3, "z").with(-1, "zz");
            picture.heap[0] = 9000;
            LeadNames x = picture.in(World.LAND);
            Check.same("a", x.loose(0, 97), 1);
            Check.same("z", x.loose(0, 122), 3);
            Check.same("not in a title", x.loose(0, 'b'), 0);
            Check.same("of the last person", x.loose(3, 122), 1);
            Check.same("a in the heap", x.loose(-1, 97), 9000);
            Check.same("z in the heap", x.loose(LeadNames.NONE, 122), 2);
            Check.same("a heap is always there", new LeadNames().loose(-1, 97), 0);
        });
        doc.holds("NONE if there is none such.", () -> {
            LeadNames x = World.busy();
            for (int person : NO_PERSON) {
                if (person != -1) {
                    Check.same("loose(" + person + ", a)", x.loose(person, 'a'), -1);
                }
            }
            Check.same("loose(-2, a)", x.loose(-2, 'a'), -1);
            for (int letter : NO_LETTER) {
                Check.same("loose(0, " + letter + ")", x.loose(0, letter), -1);
                Check.same("loose(-1, " + letter + ")", x.loose(-1, letter), -1);
            }
        });
    }

    private static void tellLead(Edges doc) {
        doc.in("Promise 12");
        doc.holds("LEAD: ounces in all COATS (what 0), THE HEAP (1), THE RIVER (2), BULLETS (3), "
                + "all together (4).", () -> {
            LeadNames x = World.busy();
            // Coats: ada ab, d (22), ben a, c (25), cy b (7). The heap: 15, 14, 80, 10.
            int[] due = {54, 119, 12, 60, 245};
            for (int what = 0; what < due.length; what++) {
                Check.same("lead(" + what + ")", x.lead(what), due[what]);
                Check.same("of a new one", new LeadNames().lead(what), 0);
            }
            LeadNames y = new Picture(0).drowned(9999999).in("");
            Check.same("the most", y.lead(4), 9999999);
        });
        doc.holds("NONE for others.", () -> {
            int[] others = {5, 6, -1, LEAST, MOST};
            for (int what : others) {
                Check.same("lead(" + what + ")", World.busy().lead(what), -1);
            }
        });
    }

    private static void tellGainAndShed(Edges doc) {
        doc.in("Promise 13");
        doc.holds("GAIN: LOAD then", () -> {
            LeadNames x = Picture.of(50, 1, 0, 0, 0).with(0, "bc").with(-1, "abcd").in(World.LAND);
            Check.same("with all that it has", x.gain(0, 4), 12 + 7 + 20 + 10);
            Check.same("loose letters weigh as ahead", x.gain(0, 2), 49 + 5);
            Check.same("as person() says", x.person(0, 2), 54);
        });
        doc.holds("NONE if it can't be.", () -> {
            for (int person : NO_PERSON) {
                State.refused(World::busy, 2, -1, x -> x.gain(person, 0));
            }
            for (int title : NO_TITLE) {
                State.refused(World::busy, 2, -1, x -> x.gain(1, title));
            }
            // ada has ab; ccc is too heavy for it; cy lifts nothing, not even of its own.
            State.refused(World::busy, 2, -1, x -> x.gain(0, 0));
            State.refused(World::busy, 2, -1, x -> x.gain(0, 3));
            State.refused(World::busy, 2, -1, x -> x.gain(2, 4));
            // A letter lacks: b of ab, where the heap has one a.
            State.refused(() -> Picture.of(50, 0, 0, 0, 0).with(-1, "a").in(World.LAND), 2, -1,
                    x -> x.gain(0, 0));
        });
        doc.in("Promise 14");
        doc.holds("SHED: LOAD then", () -> {
            LeadNames x = Picture.of(50, 5, 0, 8, 0).with(0, "c").in(World.LAND);
            Check.same("with what is left", x.shed(0, 0), 32 + 20);
            Check.same("with what is left", x.shed(0, 2), 20);
            Check.same("nothing", x.shed(2, 3), 0);
        });
        doc.holds("NONE if it can't be.", () -> {
            for (int person : NO_PERSON) {
                State.refused(World::busy, 2, -1, x -> x.shed(person, 0));
            }
            for (int title : NO_TITLE) {
                State.refused(World::busy, 2, -1, x -> x.shed(0, title));
            }
            State.refused(World::busy, 2, -1, x -> x.shed(0, 1));
            State.refused(World::busy, 2, -1, x -> x.shed(1, 0));
        });
    }

    private static void tellStealAndTrade(Edges doc) {
        doc.in("Promise 15");
        doc.holds("STEAL: true", () -> {
            LeadNames x = World.busy();
            Check.same("a loose letter", x.steal(0, 1, 'a'), true);
            Check.same("one in a title", x.steal(2, 0, 'd'), true);
            Check.same("it came", x.loose(2, 'd'), 1);
        });
        doc.holds("false if it can't be, or they are one.", () -> {
            for (int person : NO_PERSON) {
                State.refused(World::busy, 2, 0, x -> x.steal(person, 1, 'a') ? 1 : 0);
                State.refused(World::busy, 2, 0, x -> x.steal(0, person, 'a') ? 1 : 0);
            }
            for (int letter : NO_LETTER) {
                State.refused(World::busy, 2, 0, x -> x.steal(0, 1, letter) ? 1 : 0);
            }
            State.refused(World::busy, 2, 0, x -> x.steal(0, 1, 'z') ? 1 : 0);
            State.refused(World::busy, 2, 0, x -> x.steal(0, 3, 'a') ? 1 : 0);
            State.refused(World::busy, 2, 0, x -> x.steal(1, 1, 'a') ? 1 : 0);
            State.refused(World::busy, 2, 0, x -> x.steal(0, 0, 'a') ? 1 : 0);
            State.refused(World::busy, 2, 0, x -> x.steal(9, 9, 'a') ? 1 : 0);
        });
        doc.in("Promise 16");
        doc.holds("TRADE: true", () -> {
            LeadNames x = World.busy();
            Check.same("trade", x.trade(1, 'a', 2, 'b'), true);
            Check.same("and back", x.trade(1, 'b', 2, 'a'), true);
            Check.same("as it was", x.loose(1, 'a') * 10 + x.loose(2, 'b'), 11);
        });
        doc.holds("false if it can't be, the letters are alike, or the PERSONS are one.", () -> {
            for (int person : NO_PERSON) {
                State.refused(World::busy, 2, 0, x -> x.trade(person, 'a', 2, 'b') ? 1 : 0);
                State.refused(World::busy, 2, 0, x -> x.trade(1, 'a', person, 'b') ? 1 : 0);
            }
            for (int letter : NO_LETTER) {
                State.refused(World::busy, 2, 0, x -> x.trade(1, letter, 2, 'b') ? 1 : 0);
                State.refused(World::busy, 2, 0, x -> x.trade(1, 'a', 2, letter) ? 1 : 0);
            }
            // Neither b of ben nor c of cy is there; ada's a and b are in a title.
            State.refused(World::busy, 2, 0, x -> x.trade(1, 'd', 2, 'b') ? 1 : 0);
            State.refused(World::busy, 2, 0, x -> x.trade(1, 'a', 2, 'c') ? 1 : 0);
            State.refused(World::busy, 2, 0, x -> x.trade(0, 'a', 2, 'b') ? 1 : 0);
            State.refused(World::busy, 2, 0, x -> x.trade(1, 'a', 0, 'b') ? 1 : 0);
            State.refused(World::busy, 2, 0, x -> x.trade(1, 'a', 1, 'c') ? 1 : 0);
            State.refused(() -> Picture.of(50, 0, 0, 0, 0).with(0, "a").with(1, "a")
                    .in(World.LAND), 2, 0, x -> x.trade(0, 'a', 1, 'a') ? 1 : 0);
        });
    }

    private static LeadNames fullOfLoans() {
        LeadNames x = Picture.of(50, 1, 0, 0, 0).in(World.LAND);
        for (int i = 0; i < 20; i++) {
            x.lend(i % 2, 1 - i % 2, 0);
        }
        return x;
    }

    private static void tellLoans(Edges doc) {
        doc.in("Promise 17");
        doc.holds("LEND: how many LOANS", () -> {
            LeadNames x = World.busy();
            Check.same("a second", x.lend(0, 1, 0), 2);
            Check.same("a third", x.lend(1, 3, 0), 3);
            x.giveBack(2);
            Check.same("a third again", x.lend(1, 3, 0), 3);
        });
        doc.holds("NONE if it can't be.", () -> {
            for (int person : NO_PERSON) {
                State.refused(World::busy, 3, -1, x -> x.lend(person, 1, 0));
                State.refused(World::busy, 3, -1, x -> x.lend(0, person, 0));
            }
            for (int title : NO_TITLE) {
                State.refused(World::busy, 3, -1, x -> x.lend(0, 1, title));
            }
            // ada has not ba; to herself; cy lifts nothing; ben has ab too; twenty are there.
            State.refused(World::busy, 3, -1, x -> x.lend(0, 1, 1));
            State.refused(World::busy, 3, -1, x -> x.lend(0, 0, 0));
            State.refused(World::busy, 3, -1, x -> x.lend(0, 2, 0));
            State.refused(World::fresh, 3, -1, x -> x.lend(1, 2, 3));
            State.refused(() -> Picture.of(50, 1, 1, 0, 0).in(World.LAND), 3, -1,
                    x -> x.lend(0, 1, 0));
            State.refused(ActEdges::fullOfLoans, 3, -1, x -> x.lend(0, 1, 0));
        });
        doc.in("Promise 18");
        doc.holds("GIVE BACK: true", () -> {
            LeadNames x = World.busy();
            Check.same("give back", x.giveBack(0), true);
            Check.same("ben has it", x.title(4, 3), 2);
            Check.same("the last of twenty", fullOfLoans().giveBack(19), true);
            Check.same("the second of twenty", fullOfLoans().giveBack(1), true);
        });
        doc.holds("false if it can't be.", () -> {
            int[] none = {1, 2, 19, 20, -1, LEAST, MOST};
            for (int k : none) {
                State.refused(World::busy, 3, 0, x -> x.giveBack(k) ? 1 : 0);
            }
            // Who borrowed has it no more; who lent has it again.
            State.refused(ActEdges::fullOfLoans, 3, 0, x -> x.giveBack(0) ? 1 : 0);
            State.refused(ActEdges::lentAndGained, 3, 0, x -> x.giveBack(0) ? 1 : 0);
        });
        doc.in("Promise 19");
        doc.holds("Of the k-th LOAN: 0 who lent, 1 who borrowed, 2 the TITLE, 3 whether it can be "
                + "given back.", () -> {
            LeadNames x = World.busy();
            x.lend(0, 3, 4);
            int[][] due = {{1, 0, 4, 0}, {0, 3, 4, 1}};
            for (int k = 0; k < due.length; k++) {
                for (int what = 0; what < 4; what++) {
                    Check.same("loan(" + k + ", " + what + ")", x.loan(k, what), due[k][what]);
                }
            }
            Check.same("who lent has it again", lentAndGained().loan(0, 3), 0);
            Check.same("the twentieth", fullOfLoans().loan(19, 0), 1);
        });
        doc.holds("NONE if there is none such, or for others.", () -> {
            LeadNames x = World.busy();
            int[] none = {1, 2, 19, 20, -1, LEAST, MOST};
            for (int k : none) {
                for (int what = 0; what < 4; what++) {
                    Check.same("loan(" + k + ", " + what + ")", x.loan(k, what), -1);
                }
            }
            int[] others = {4, 5, -1, LEAST, MOST};
            for (int what : others) {
                Check.same("loan(0, " + what + ")", x.loan(0, what), -1);
            }
        });
    }

    /** ada lent ab to ben, and made another one. */
    private static LeadNames lentAndGained() {
        LeadNames x = Picture.of(50, 1, 0, 0, 0).with(-1, "ab").in(World.LAND);
        x.lend(0, 1, 0);
        x.gain(0, 0);
        return x;
    }

    private static void tellCoats(Edges doc) {
        doc.in("Promise 20");
        doc.holds("DROWN: ounces that went into THE RIVER", () -> {
            LeadNames x = World.busy();
            Check.same("titles", x.drown(0), 22);
            Check.same("loose letters", x.drown(1), 25);
            Check.same("nothing", x.drown(0), 0);
            Check.same("the river", x.lead(2), 12 + 47);
        });
        doc.holds("NONE if there is none such.", () -> {
            for (int person : NO_PERSON) {
                State.refused(World::busy, 3, -1, x -> x.drown(person));
            }
        });
        doc.in("Promise 21");
        doc.holds("MELT: how many BULLETS", () -> {
            LeadNames x = World.busy();
            Check.same("a second", x.melt(0, 4), 2);
            Check.same("a third", x.melt(0, 0), 3);
        });
        doc.holds("NONE if it can't be.", () -> {
            for (int person : NO_PERSON) {
                State.refused(World::busy, 3, -1, x -> x.melt(person, 0));
            }
            for (int title : NO_TITLE) {
                State.refused(World::busy, 3, -1, x -> x.melt(0, title));
            }
            State.refused(World::busy, 3, -1, x -> x.melt(0, 1));
            State.refused(() -> Picture.of(50, 1, 0, 0, 0).shot(1, 1, 1, 1, 1, 1, 1, 1, 1, 1, 1, 1,
                    1, 1, 1, 1, 1, 1, 1, 1, 1, 1, 1, 1, 1, 1, 1, 1, 1, 1).in(World.LAND), 3, -1,
                    x -> x.melt(0, 0));
        });
        doc.in("Promise 22");
        doc.holds("HEIR: the TITLES that the other one got (bits)", () -> {
            LeadNames x = World.busy();
            Check.same("ab alone, d has no honour", x.heir(0, 1), 1);
            Check.same("none of none", x.heir(0, 1), 0);
            Check.same("none to one who lifts nothing", x.heir(1, 2), 0);
        });
        doc.holds("NONE if it can't be.", () -> {
            for (int person : NO_PERSON) {
                State.refused(World::busy, 3, -1, x -> x.heir(person, 1));
                State.refused(World::busy, 3, -1, x -> x.heir(0, person));
            }
            State.refused(World::busy, 3, -1, x -> x.heir(0, 0));
        });
    }

    private static void tellTime(Edges doc) {
        doc.in("Promise 23");
        doc.holds("So many YEARS go by (1 .. 60): how many TITLES were SHED", () -> {
            LeadNames x = Picture.of(50, 1, 7, 3, 0).with(0, "ccc").in(World.LAND);
            Check.same("one year: cy's two", x.years(1), 2);
            Check.same("one year", x.has(5), 51);
            Check.same("sixty years", x.years(60), 0);
            Check.same("sixty years", x.has(5), 111);
            // Each year is looked at: in the first b goes, in the second c.
            LeadNames y = Check.landed("person p born 0 lifts 30 dents 0;title a honour 9;"
                    + "title b honour 5;title c honour 6;has p a;has p b;has p c;age 0 100;"
                    + "age 1 67;age 2 34;");
            Check.same("three years", y.years(3), 2);
            Check.same("b in 1", y.moved(0, 0) * 100 + y.span(0, 1), 101);
            Check.same("c in 2", y.moved(1, 0) * 100 + y.span(1, 1), 202);
        });
        doc.holds("NONE if it can't be.", () -> {
            int[] wrong = {0, 61, -1, 62, 999, LEAST, MOST};
            for (int n : wrong) {
                State.refused(World::busy, 4, -1, x -> x.years(n));
            }
        });
        doc.in("Promise 24");
        doc.holds("A FEAST: how many TITLES were GAINED.", () -> {
            String land = World.persons(8, 99) + World.many("title # honour 0;heap # 9;", 12);
            LeadNames x = Check.landed(land);
            for (int feast = 1; feast <= 5; feast++) {
                int ahead = titles(x);
                int gained = x.feast();
                Check.same("feast " + feast, gained, titles(x) - ahead);
                Check.same("one each at most", gained <= 8, true);
            }
            Check.same("no persons", new LeadNames().feast(), 0);
            Check.same("no titles", Check.landed(World.persons(8, 99)).feast(), 0);
            Check.same("no letters", Check.landed(World.persons(8, 99) + "title a honour 0;")
                    .feast(), 0);
        });
        doc.in("Promise 25");
        doc.holds("THE SEED is this, 0 .. 2 to the 31 less 1: true", () -> {
            int[] seeds = {0, 1, 4711, MOST - 1, MOST};
            for (int seed : seeds) {
                LeadNames x = Check.landed(World.persons(1, 99)
                        + World.many("title # honour 0;heap # 9;", 12));
                x.feast();
                x.drown(0);
                Check.same("seed " + seed, x.seed(seed), true);
                x.feast();
                long next = (1103515245L * seed + 12345) % (1L << 31);
                Check.same("by seed " + seed, x.person(0, 4), 1 << next / 64 % 13 >> 1);
            }
        });
        doc.holds("false if it can't be.", () -> {
            int[] wrong = {-1, -2, LEAST, LEAST + 1};
            for (int seed : wrong) {
                State.refused(World::busy, 4, 0, x -> x.seed(seed) ? 1 : 0);
            }
        });
    }

    private static int titles(LeadNames x) {
        int sum = 0;
        for (int p = 0; p < 8; p++) {
            sum += Integer.bitCount(x.person(p, 4));
        }
        return sum;
    }
}
