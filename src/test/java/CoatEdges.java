import java.util.Arrays;

/** Terms II: coats, limits, each act, years, feasts. */
final class CoatEdges {
    // Ounces: a 5, b 7, c 20. Titles: 0 ab (12), 1 ba (12), 2 abc (32), 3 aab (17).
    private static final String LAND = "letter a 5;letter b 7;letter c 20;"
            + "person p born 0 lifts 60 dents 0;person q born 0 lifts 60 dents 0;"
            + "person r born 0 lifts 0 dents 0;"
            + "title ab honour 5;title ba honour 6;title abc honour 9;title aab honour 2;";

    private CoatEdges() {
    }

    static void tell(Edges doc) {
        doc.in("Terms II");
        tellCoats(doc);
        tellLimits(doc);
        tellGain(doc);
        tellSteal(doc);
        tellLend(doc);
        tellGiveBack(doc);
        tellDrownAndMelt(doc);
        tellHeir(doc);
        tellBestSet(doc);
        tellYears(doc);
        tellFeast(doc);
    }

    private static void tellCoats(Edges doc) {
        doc.holds("OUNCES of a TITLE: of its letters together.", () -> {
            LeadNames x = Check.landed("letter a 99;letter b 1;title aaaaaa honour 0;"
                    + "title b honour 0;title aba honour 0;title c honour 0;");
            Check.same("the most", x.title(0, 0), 594);
            Check.same("the least", x.title(1, 0), 1);
            Check.same("each as often as it has it", x.title(2, 0), 199);
            Check.same("letters that were not told", x.title(3, 0), 10);
        });
        doc.holds("A COAT has TITLES, each once, and LOOSE letters.", () -> {
            LeadNames x = Picture.of(0, 1, 1, 0).with(0, "ab").with(-1, "ab").in(LAND);
            Check.same("no second one by gain", x.gain(0, 0), -1);
            Check.same("nor by a loan", x.lend(1, 0, 0), -1);
            Check.same("nor by heir", x.heir(1, 0), 0);
            Check.same("its titles", x.person(0, 4), 1);
            Check.same("its loose letters", x.person(0, 5), 2);
            Check.same("a", x.loose(0, 'a'), 1);
        });
        doc.holds("LOAD: all of that together.", () -> {
            LeadNames x = Picture.of(0, 5, 0, 0).with(0, "aac").with(1, "c").in(LAND);
            Check.same("titles and loose letters", x.person(0, 2), 12 + 32 + 5 + 5 + 20);
            Check.same("loose letters alone", x.person(1, 2), 20);
            Check.same("nothing", x.person(2, 2), 0);
        });
        doc.holds("HONOUR: of its TITLES.", () -> {
            LeadNames x = Picture.of(0, 5, 0, 0).with(1, "abc").in(LAND);
            Check.same("together", x.person(0, 3), 14);
            Check.same("not of letters", x.person(1, 3), 0);
            LeadNames y = Check.landed("person p born 0 lifts 0 dents 0;"
                    + World.many("title # honour 999;has p #;", 12));
            Check.same("the most", y.person(0, 3), 12 * 999);
        });
        doc.holds("AGE: YEAR less born, 0 at least.", () -> {
            String born = "person p born 50 lifts 0 dents 0;year ";
            Check.same("0", Check.landed(born + "0;").person(0, 0), 0);
            Check.same("the year ahead", Check.landed(born + "49;").person(0, 0), 0);
            Check.same("that year", Check.landed(born + "50;").person(0, 0), 0);
            Check.same("the next", Check.landed(born + "51;").person(0, 0), 1);
        });
    }

    private static int limit(String more) {
        return Check.landed("person p born 10 lifts 77 dents 0;" + more).person(0, 1);
    }

    private static void tellLimits(Edges doc) {
        doc.holds("LIMIT of a PERSON: floor(lifts times what is told of its AGE", () -> {
            Check.same("77 times 50 of 100", limit("age 0 50;"), 38);
            Check.same("77 times 1 of 100", limit("age 0 1;"), 0);
            Check.same("77 times 2 of 100", limit("age 0 2;"), 1);
            Check.same("77 times 199 of 100", limit("age 0 199;"), 153);
            Check.same("999 times 200 of 100", Check.landed("person p born 0 lifts 999 dents 0;"
                    + "age 0 200;").person(0, 1), 1998);
            // The floor is of that alone: 38.5 and a law's 1 are 39.
            Check.same("and a law", limit("age 0 50;bears 1 when all;"), 39);
        });
        doc.holds("(the last age that begins not above; 100 without) / 100)", () -> {
            Check.same("no ages", limit("year 50;"), 77);
            Check.same("the first begins later", limit("age 41 0;year 50;"), 77);
            Check.same("it begins now", limit("age 40 0;year 50;"), 0);
            Check.same("the last of two", limit("age 1 0;age 40 200;year 50;"), 154);
            Check.same("not the next", limit("age 1 200;age 41 0;year 50;"), 154);
            Check.same("of age 0", limit("age 1 0;year 10;"), 77);
            Check.same("not born yet", limit("age 0 200;age 1 0;year 5;"), 154);
            LeadNames x = Check.landed("person p born 0 lifts 77 dents 0;age 0 0;age 99 100;"
                    + "year 98;");
            Check.same("98", x.person(0, 1), 0);
            x.years(60);
            Check.same("158", x.person(0, 1), 77);
        });
        doc.holds("and the SUM of the first LAW whose TEST holds", () -> {
            Check.same("no law", limit(""), 77);
            Check.same("none holds", limit("bears 9 when 1>2;bears 8 when not all;"), 77);
            Check.same("the first", limit("bears 9 when all;bears 8 when all;"), 86);
            Check.same("the first that holds", limit("bears 9 when 1>2;bears 8 when all;"
                    + "bears 7 when all;"), 85);
            Check.same("also below 0", limit("bears 0-9 when all;"), 68);
        });
        doc.holds("0 .. 9999 (below is 0, above 9999).", () -> {
            Check.same("0", limit("bears 0-77 when all;"), 0);
            Check.same("below", limit("bears 0-78 when all;"), 0);
            Check.same("far below", limit("bears 0-9999*9999 when all;"), 0);
            Check.same("9998", limit("bears 9921 when all;"), 9998);
            Check.same("9999", limit("bears 9922 when all;"), 9999);
            Check.same("above", limit("bears 9923 when all;"), 9999);
            Check.same("far above", limit("bears 9999*9999 when all;"), 9999);
        });
    }

    private static void tellGain(Edges doc) {
        doc.holds("GAIN: a TITLE that it has not is made of LOOSE letters of its own, and what "
                + "lacks out of THE HEAP", () -> {
            LeadNames x = Picture.of(0, 0, 0, 0).with(0, "ac").with(1, "ab").with(-1, "aab")
                    .in(LAND);
            // aab: one a is loose, the other one and b come.
            Check.same("gain", x.gain(0, 3), 17 + 20);
            Check.same("its a went", x.loose(0, 'a'), 0);
            Check.same("its c stays", x.loose(0, 'c'), 1);
            Check.same("one a came", x.loose(-1, 'a'), 1);
            Check.same("b came", x.loose(-1, 'b'), 0);
            Check.same("ounces that came", x.moved(0, 4), 12);
            Check.same("all of its own", x.gain(1, 0), 12);
            Check.same("its letters went", x.person(1, 5), 0);
            Check.same("none came", x.loose(-1, 'a'), 1);
            Check.same("that it has", x.gain(1, 0), -1);
        });
        doc.holds("all must be there", () -> {
            LeadNames x = Picture.of(0, 1, 0, 0).with(2, "ab").with(-1, "ab").in(LAND);
            Check.same("the second a lacks", x.gain(1, 3), -1);
            Check.same("c lacks", x.gain(1, 2), -1);
            Check.same("nothing went", x.loose(-1, 'a') + x.loose(-1, 'b'), 2);
            Check.same("those of ab are there", x.gain(1, 0), 12);
            // Not those of other coats, nor in titles of its own.
            Check.same("no letter is left", x.gain(0, 1), -1);
            Check.same("no letter is left", x.gain(1, 1), -1);
            LeadNames y = Picture.of(0, 0, 0, 0).with(0, "a").with(-1, "ab").in(LAND);
            Check.same("one loose, one in the heap", y.gain(0, 3), 17);
        });
        doc.holds("and LOAD then not above LIMIT (as it was ahead).", CoatEdges::gainLimits);
        doc.holds("SHED: its letters come to THE HEAP.", () -> {
            LeadNames x = Picture.of(0, 8, 0, 8).with(0, "a").in(LAND);
            x.shed(0, 3);
            Check.same("a", x.loose(-1, 'a'), 2);
            Check.same("b", x.loose(-1, 'b'), 1);
            Check.same("its own loose one stays", x.loose(0, 'a'), 1);
            Check.same("that of the other one stays", x.person(2, 4), 8);
        });
    }

    private static void gainLimits() {
        String land = "letter a 5;letter b 7;person p born 0 lifts # dents 0;title ab honour 1;"
                + "title a honour 1;heap a 9;heap b 9;";
        Check.same("just the limit", Check.landed(land.replace("#", "12")).gain(0, 0), 12);
        Check.same("an ounce above", Check.landed(land.replace("#", "11")).gain(0, 0), -1);
        LeadNames x = Picture.of(0, 0).with(0, "ab").in(land.replace("#", "12"));
        Check.same("its own letters weigh already", x.gain(0, 0), 12);
        LeadNames y = Picture.of(0, 0).with(0, "abb").with(-1, "a").in(land.replace("#", "23"));
        Check.same("what is left loose weighs too", y.gain(0, 1), 19);
        LeadNames z = Picture.of(0, 0).with(0, "ab").in(land.replace("#", "11"));
        Check.same("above already", z.gain(0, 0), -1);
        LeadNames more = Check.landed(land.replace("#", "11") + "bears 9 when names>0;");
        Check.same("it could bear more with a name", more.gain(0, 0), -1);
        LeadNames less = Check.landed(land.replace("#", "12") + "bears 0-9 when names>0;");
        Check.same("it could bear less with a name", less.gain(0, 0), 12);
        Check.same("limit then", less.person(0, 1), 3);
    }

    private static void tellSteal(Edges doc) {
        doc.holds("STEAL of a letter from another one: out of its LOOSE ones", () -> {
            LeadNames x = Picture.of(0, 1, 0, 0).with(0, "aa").in(LAND);
            Check.same("steal", x.steal(1, 0, 'a'), true);
            Check.same("one went", x.loose(0, 'a'), 1);
            Check.same("one came", x.loose(1, 'a'), 1);
            Check.same("steal", x.steal(1, 0, 'a'), true);
            Check.same("the last loose one went", x.loose(0, 'a'), 0);
            Check.same("ab stays", x.person(0, 4), 1);
            Check.same("not from oneself", x.steal(1, 1, 'a'), false);
        });
        doc.holds("if there is none, the first of its TITLES (by numbers) that has it is UNPICKED "
                + "(its letters are LOOSE then)", () -> {
            LeadNames x = Picture.of(0, 14, 0, 0).with(0, "c").in(LAND);
            Check.same("steal a", x.steal(1, 0, 'a'), true);
            Check.same("ba is the first", x.person(0, 4), 12);
            Check.same("its b is loose", x.loose(0, 'b'), 1);
            Check.same("no a", x.loose(0, 'a'), 0);
            Check.same("steal c", x.steal(1, 0, 'c'), true);
            Check.same("a loose one was there", x.person(0, 4), 12);
            Check.same("steal c", x.steal(1, 0, 'c'), true);
            Check.same("abc has it", x.person(0, 4), 8);
            Check.same("a", x.loose(0, 'a'), 1);
            Check.same("b", x.loose(0, 'b'), 2);
            Check.same("no title has c", x.steal(1, 0, 'c'), false);
            Check.same("none has z", x.steal(1, 0, 'z'), false);
            LeadNames y = Picture.of(0, 8, 0, 0).in(LAND);
            y.steal(1, 0, 'a');
            Check.same("of aab one a stays", y.loose(0, 'a'), 1);
            Check.same("its span is over", y.span(0, 1), 3);
        });
        doc.holds("it comes LOOSE to the thief, whatever its LIMIT.", () -> {
            LeadNames x = Picture.of(0, 1, 0, 0).in(LAND);
            Check.same("limit", x.person(2, 1), 0);
            Check.same("steal", x.steal(2, 0, 'b'), true);
            Check.same("loose", x.loose(2, 'b'), 1);
            Check.same("load", x.person(2, 2), 7);
            Check.same("once more", x.steal(2, 0, 'a'), true);
            Check.same("load", x.person(2, 2), 12);
        });
        doc.holds("TRADE of two LOOSE letters of two PERSONS, unlike ones.", () -> {
            LeadNames x = Picture.of(0, 1, 2, 0).with(0, "aa").with(1, "c").with(2, "b").in(LAND);
            Check.same("trade", x.trade(0, 'a', 1, 'c'), true);
            Check.same("p has a", x.loose(0, 'a'), 1);
            Check.same("p has c", x.loose(0, 'c'), 1);
            Check.same("q has a", x.loose(1, 'a'), 1);
            Check.same("q has c", x.loose(1, 'c'), 0);
            Check.same("whatever the limit", x.trade(2, 'b', 0, 'c'), true);
            Check.same("r's load", x.person(2, 2), 20);
            Check.same("one in a title is not loose", x.trade(1, 'b', 0, 'a'), false);
            Check.same("nor of the other one", x.trade(1, 'a', 2, 'a'), false);
            Check.same("letters alike", x.trade(0, 'a', 1, 'a'), false);
            Check.same("one person", x.trade(0, 'a', 0, 'b'), false);
        });
    }

    private static void tellLend(Edges doc) {
        doc.holds("LEND of a TITLE to one who has it not", () -> {
            LeadNames x = Picture.of(0, 3, 1, 0).in(LAND);
            Check.same("who has it", x.lend(0, 1, 0), -1);
            Check.same("oneself", x.lend(0, 0, 0), -1);
            Check.same("that who lends has not", x.lend(1, 0, 2), -1);
            Check.same("who has it not", x.lend(0, 1, 1), 1);
        });
        doc.holds("and whose LOAD then is not above its LIMIT: with its lead", () -> {
            String land = "letter a 5;letter b 7;person p born 0 lifts 0 dents 0;"
                    + "person q born 0 lifts # dents 0;title ab honour 1;title a honour 1;";
            LeadNames x = Picture.of(0, 1, 0).in(land.replace("#", "12"));
            Check.same("just the limit", x.lend(0, 1, 0), 1);
            Check.same("without lead then", x.person(0, 2), 0);
            Check.same("with it", x.person(1, 2), 12);
            Check.same("an ounce above", Picture.of(0, 1, 0).in(land.replace("#", "11"))
                    .lend(0, 1, 0), -1);
            Check.same("loose letters weigh", Picture.of(0, 1, 0).with(1, "a")
                    .in(land.replace("#", "16")).lend(0, 1, 0), -1);
            Check.same("other titles weigh", Picture.of(0, 1, 2).in(land.replace("#", "16"))
                    .lend(0, 1, 0), -1);
            Check.same("with them just the limit", Picture.of(0, 1, 2)
                    .in(land.replace("#", "17")).lend(0, 1, 0), 1);
            // The limit is the one ahead, as of gain: without names q lifts 9 more, or less.
            Check.same("more ahead", Picture.of(0, 1, 0).in(land.replace("#", "3")
                    + "bears 9 when names=0;").lend(0, 1, 0), 1);
            Check.same("more then", Picture.of(0, 1, 0).in(land.replace("#", "3")
                    + "bears 9 when names=1;").lend(0, 1, 0), -1);
        });
        doc.holds("a LOAN (20 at most, in order", () -> {
            LeadNames x = Picture.of(0, 1, 0, 0).in(LAND);
            for (int i = 0; i < 20; i++) {
                Check.same("loan " + i, x.lend(i % 2, 1 - i % 2, 0), i + 1);
            }
            Check.same("a 21st", x.lend(0, 1, 0), -1);
            Check.same("it stays", x.person(0, 4), 1);
            for (int i = 0; i < 20; i++) {
                Check.same("loan " + i, x.loan(i, 0), i % 2);
            }
            Check.same("give back", x.giveBack(19), true);
            Check.same("a 20th again", x.lend(1, 0, 0), 20);
        });
        doc.holds("also a lent one can be lent).", () -> {
            LeadNames x = Picture.of(0, 1, 0, 0).in(LAND + "bears 99 when all;");
            Check.same("p to q", x.lend(0, 1, 0), 1);
            Check.same("q to r", x.lend(1, 2, 0), 2);
            Check.same("r to p", x.lend(2, 0, 0), 3);
            Check.same("p has it", x.title(0, 3), 1);
        });
    }

    private static void tellGiveBack(Edges doc) {
        doc.holds("GIVE BACK of the k-th LOAN: undone (and gone)", () -> {
            LeadNames x = Picture.of(0, 7, 0, 0).in(LAND);
            for (int t = 0; t < 3; t++) {
                x.lend(0, 1, t);
            }
            Check.same("the second", x.giveBack(1), true);
            Check.same("p has it", x.person(0, 4), 2);
            Check.same("q has it not", x.person(1, 4), 5);
            Check.same("gone", x.has(6), 2);
            Check.same("the first stays", x.loan(0, 2), 0);
            Check.same("the third came up", x.loan(1, 2), 2);
            Check.same("the last", x.giveBack(1), true);
            Check.same("the first", x.giveBack(0), true);
            Check.same("none is left", x.giveBack(0), false);
            // Those behind come up with all that they tell.
            LeadNames z = Picture.of(0, 1, 2, 4).in(LAND + "bears 99 when all;");
            z.lend(0, 1, 0);
            z.lend(1, 2, 1);
            z.lend(2, 0, 2);
            z.giveBack(0);
            int[][] left = {{1, 2, 1, 1}, {2, 0, 2, 1}};
            for (int k = 0; k < left.length; k++) {
                for (int what = 0; what < 4; what++) {
                    Check.same("loan " + k + ", " + what, z.loan(k, what), left[k][what]);
                }
            }
            // Whatever the limit of who lent.
            LeadNames y = Picture.of(0, 0, 0, 1).in(LAND);
            y.lend(2, 0, 0);
            Check.same("to one who lifts nothing", y.giveBack(0), true);
            Check.same("with its lead", y.person(2, 2), 12);
        });
        doc.holds("if who borrowed has the TITLE and who lent has it not.", () -> {
            LeadNames x = Picture.of(0, 1, 0, 0).with(-1, "ab").in(LAND);
            x.lend(0, 1, 0);
            x.shed(1, 0);
            Check.same("who borrowed has it not", x.giveBack(0), false);
            Check.same("the loan stays", x.has(6), 1);
            x.gain(1, 0);
            Check.same("made anew", x.loan(0, 3), 1);
            x.gain(0, 0);
            Check.same("who lent has it", x.giveBack(0), false);
            x.shed(0, 0);
            Check.same("no more", x.giveBack(0), true);
        });
    }

    private static void tellDrownAndMelt(Edges doc) {
        doc.holds("DROWN: the COAT with all that it has is in THE RIVER.", () -> {
            LeadNames x = Picture.of(0, 5, 1, 0).with(0, "acc").with(1, "a").drowned(3).in(LAND);
            x.drown(0);
            Check.same("the river", x.lead(2), 3 + 12 + 32 + 45);
            Check.same("no titles", x.person(0, 4), 0);
            Check.same("no loose letters", x.person(0, 5), 0);
            Check.same("no load", x.person(0, 2), 0);
            Check.same("the other one's stays", x.person(1, 2), 17);
            Check.same("nothing in the heap", x.lead(1), 0);
            x.drown(2);
            Check.same("an empty one", x.lead(2), 92);
        });
        doc.holds("MELT of a TITLE: it is a BULLET (30 at most) of its OUNCES.", () -> {
            LeadNames x = Picture.of(0, 4, 1, 0).shot(ones(28)).in(LAND);
            Check.same("a 29th", x.melt(0, 2), 29);
            Check.same("its ounces", x.lead(3), 28 + 32);
            Check.same("it went", x.person(0, 4), 0);
            Check.same("a 30th", x.melt(1, 0), 30);
            LeadNames y = Picture.of(0, 4, 1, 0).shot(ones(30)).in(LAND);
            Check.same("a 31st", y.melt(0, 2), -1);
            Check.same("it stays", y.person(0, 4), 4);
            Check.same("thirty", y.has(7), 30);
        });
    }

    private static int[] ones(int n) {
        int[] row = new int[n];
        Arrays.fill(row, 1);
        return row;
    }

    private static void tellHeir(Edges doc) {
        doc.holds("HEIR: of the TITLES of one that another one has not", () -> {
            LeadNames x = Picture.of(0, 3, 1, 0).in(LAND);
            Check.same("ba alone", x.heir(0, 1), 2);
            Check.same("q has both", x.person(1, 4), 3);
            Check.same("ab came to the heap", x.loose(-1, 'a'), 1);
            LeadNames y = Picture.of(0, 3, 3, 0).in(LAND);
            Check.same("all of them it has", y.heir(0, 1), 0);
            Check.same("both came to the heap", y.lead(1), 24);
            Check.same("of none", y.heir(2, 1), 0);
        });
        doc.holds("THE BEST SET in that one's LIMIT less its LOAD (0 at least) goes to it",
                CoatEdges::heirRoom);
        doc.holds("all else of the first one's COAT comes to THE HEAP.", () -> {
            LeadNames x = Picture.of(0, 15, 0, 0).with(0, "aaac").with(1, "ab").with(-1, "c")
                    .in(LAND);
            // q lifts 60, has 12: of 5 (12), 6 (12), 9 (32), 2 (17) the best in 48 is ba, abc.
            Check.same("heir", x.heir(0, 1), 6);
            Check.same("a of ab, aab, loose", x.loose(-1, 'a'), 1 + 2 + 3);
            Check.same("b of ab, aab", x.loose(-1, 'b'), 2);
            Check.same("c", x.loose(-1, 'c'), 2);
            Check.same("nothing is left", x.person(0, 2), 0);
            Check.same("q's loose ones stay", x.person(1, 5), 2);
        });
    }

    private static void heirRoom() {
        String land = "letter a 5;letter b 7;person p born 0 lifts 0 dents 0;"
                + "person q born 0 lifts # dents 0;title ab honour 5;title ba honour 6;"
                + "title a honour 1;";
        Check.same("just in it", Picture.of(0, 3, 4).in(land.replace("#", "29")).heir(0, 1), 3);
        Check.same("an ounce less", Picture.of(0, 3, 4).in(land.replace("#", "28")).heir(0, 1), 2);
        Check.same("loose letters weigh", Picture.of(0, 3, 4).with(1, "a")
                .in(land.replace("#", "29")).heir(0, 1), 2);
        Check.same("no room at all", Picture.of(0, 3, 4).in(land.replace("#", "5")).heir(0, 1), 0);
        Check.same("above the limit", Picture.of(0, 3, 4).in(land.replace("#", "0")).heir(0, 1),
                0);
        // Not an ounce above the limit, nor at it.
        String light = "letter a 1;person p born 0 lifts 0 dents 0;person q born 0 lifts # dents 0;"
                + "title a honour 1;";
        Check.same("an ounce", Picture.of(0, 1, 0).in(light.replace("#", "1")).heir(0, 1), 1);
        Check.same("no ounce", Picture.of(0, 1, 0).in(light.replace("#", "0")).heir(0, 1), 0);
        Check.same("less than none", Picture.of(0, 1, 0).with(1, "aaa").in(light.replace("#", "1"))
                .heir(0, 1), 0);
        // The limit is the one ahead: with no names q lifts 12 more.
        Check.same("the limit ahead", Picture.of(0, 3, 0).in(land.replace("#", "12")
                + "bears 12 when names=0;").heir(0, 1), 3);
    }

    private static int best(int lifts, String titles) {
        return Check.landed(World.many("letter # 1;", 12) + "person p born 0 lifts " + lifts
                + " dents 0;" + titles).person(0, 6);
    }

    private static void tellBestSet(Edges doc) {
        doc.holds("THE BEST SET of some TITLES in so many ounces: that with the most honour "
                + "together of all whose OUNCES together are not above that", () -> {
            String titles = "title a honour 3;title bb honour 4;title ccc honour 6;";
            int[] due = {0, 1, 2, 3, 5, 6, 7, 7};
            for (int lifts = 0; lifts < due.length; lifts++) {
                Check.same("in " + lifts, best(lifts, titles), due[lifts]);
            }
            Check.same("of none", best(99, ""), 0);
            Check.same("all twelve", best(12, World.many("title # honour 999;", 12)), 4095);
            Check.same("all but the last", best(11, World.many("title # honour 999;", 12)), 2047);
        });
        doc.holds("of like ones with the fewest TITLES", () -> {
            Check.same("one for two", best(2, "title a honour 3;title b honour 3;"
                    + "title cc honour 6;"), 4);
            Check.same("none without honour", best(9, "title a honour 0;title b honour 0;"), 0);
            Check.same("none without honour", best(9, "title a honour 0;title b honour 1;"), 2);
            Check.same("two for three", best(4, "title a honour 2;title b honour 1;"
                    + "title cc honour 3;title dd honour 3;"), 12);
        });
        doc.holds("of these the least number of bits.", () -> {
            Check.same("one of three", best(1, "title a honour 3;title b honour 3;"
                    + "title c honour 3;"), 1);
            Check.same("two of four", best(2, "title a honour 3;title b honour 3;title c honour 3;"
                    + "title d honour 3;"), 3);
            // The middle ones (6) against the first and the last (9).
            Check.same("the middle ones", best(4, "title a honour 3;title bb honour 4;"
                    + "title cc honour 4;title ddd honour 5;"), 6);
            // Honour ahead of all: the last one, of the most bits, has the most.
            Check.same("honour first", best(1, "title a honour 3;title b honour 3;"
                    + "title c honour 4;"), 4);
        });
    }

    private static void tellYears(Edges doc) {
        doc.holds("A YEAR goes by: YEAR is one more (it stops at 999)", () -> {
            LeadNames x = Picture.of(998, 0, 0, 0).in(LAND);
            x.years(1);
            Check.same("the last one", x.has(5), 999);
            Check.same("still", x.years(1), 0);
            Check.same("it stops", x.has(5), 999);
            LeadNames y = Picture.of(950, 0, 0, 0).in(LAND);
            y.years(60);
            Check.same("also on the way", y.has(5), 999);
            LeadNames z = Picture.of(999, 0, 0, 1).in(LAND);
            Check.same("but they shed", z.years(1), 1);
            Check.same("in 999", z.moved(0, 0), 999);
            Check.same("one more", years(Picture.of(7, 0, 0, 0), 1).has(5), 8);
            Check.same("sixty more", years(Picture.of(7, 0, 0, 0), 60).has(5), 67);
        });
        doc.holds("each PERSON, by number, whose LOAD is above its LIMIT: its LOOSE letters come "
                + "to THE HEAP", () -> {
            // p is just at 60, q an ounce or more above, r above 0.
            LeadNames x = years(Picture.of(0, 0, 1, 0).with(0, "ccc").with(1, "ccaaa")
                    .with(2, "a").with(-1, "c"), 1);
            Check.same("p's stay", x.person(0, 5), 3);
            Check.same("all of q's go", x.person(1, 5), 0);
            Check.same("q's title stays", x.person(1, 4), 1);
            Check.same("r's go", x.person(2, 5), 0);
            Check.same("c in the heap", x.loose(-1, 'c'), 3);
            Check.same("a in the heap", x.loose(-1, 'a'), 4);
            LeadNames y = Picture.of(0, 7, 7, 1).in(LAND.replace("lifts 60", "lifts 20"));
            Check.same("each sheds", y.years(1), 5);
            int[] who = {0, 0, 1, 1, 2};
            for (int k = 0; k < who.length; k++) {
                Check.same("by number", y.moved(k, 2), who[k]);
            }
        });
        doc.holds("if it still is, it keeps THE BEST SET of its TITLES in its LIMIT, and SHEDS all "
                + "others, by numbers.", CoatEdges::yearsShed);
        doc.holds("LOANS stay.", () -> {
            LeadNames x = Check.landed("person p born 0 lifts 99 dents 0;person q born 0 lifts 99 "
                    + "dents 0;title ab honour 1;has p ab;age 0 100;age 1 0;");
            x.lend(0, 1, 0);
            Check.same("q sheds it", x.years(1), 1);
            Check.same("loans", x.has(6), 1);
            Check.same("who lent", x.loan(0, 0), 0);
            Check.same("it can't be given back", x.loan(0, 3), 0);
        });
    }

    private static LeadNames years(Picture picture, int n) {
        LeadNames x = picture.in(LAND);
        x.years(n);
        return x;
    }

    private static void yearsShed() {
        String land = "letter a 5;letter b 7;letter c 9;person p born 0 lifts # dents 0;"
                + "title a honour 0;title b honour 4;title c honour 5;";
        LeadNames x = Picture.of(0, 7).with(0, "a").in(land.replace("#", "21"));
        Check.same("without loose letters just at the limit", x.years(1), 0);
        Check.same("all stay, also without honour", x.person(0, 4), 7);
        LeadNames y = Picture.of(0, 7).in(land.replace("#", "20"));
        Check.same("an ounce above", y.years(1), 1);
        Check.same("the best set, without a", y.person(0, 4), 6);
        LeadNames z = Picture.of(0, 7).with(0, "cc").in(land.replace("#", "15"));
        Check.same("in 15", z.years(1), 2);
        Check.same("c alone", z.person(0, 4), 4);
        Check.same("by numbers: a", z.moved(0, 4), 5);
        Check.same("by numbers: b", z.moved(1, 4), 7);
        Check.same("all else is in the heap", z.lead(1), 5 + 7 + 18);
        Check.same("nothing can stay", Picture.of(0, 7).in(land.replace("#", "0")).years(1), 3);
        // All others go, also those with which it could stay at the limit.
        LeadNames v = Picture.of(0, 15).in(land.replace("#", "30") + "title d honour 0;");
        Check.same("a and d go, though 26 ounces were left behind a", v.years(1), 2);
        Check.same("b and c", v.person(0, 4), 6);
        // The limit is looked at once a year: with three names it is 7 more.
        LeadNames w = Picture.of(0, 7).in(land.replace("#", "9") + "bears 7 when names=3;");
        Check.same("in 16 ahead", w.years(1), 1);
        Check.same("b and c", w.person(0, 4), 6);
        Check.same("in 9 the next year", w.years(1), 1);
        Check.same("c", w.person(0, 4), 4);
    }

    private static long next(long seed) {
        return (1103515245L * seed + 12345) % (1L << 31);
    }

    /** A seed by which the first draw of n is such a place. */
    private static int seedFor(int n, int place) {
        int seed = 0;
        while (next(seed) / 64 % n != place) {
            seed++;
        }
        return seed;
    }

    private static void tellFeast(Edges doc) {
        doc.holds("A FEAST: each PERSON, by number: of the TITLES that it could GAIN then, by "
                + "numbers", () -> {
            // ab lacks b, ba is had, abc is too heavy, aab can be: one title alone.
            String land = LAND.replace("lifts 60", "lifts 30") + "title a honour 0;";
            Picture picture = Picture.of(0, 2, 31, 31).with(0, "a").with(-1, "aa");
            LeadNames x = picture.in(land.replace("title aab ", "title aaa "));
            x.seed(seedFor(3, 1));
            x.feast();
            Check.same("the first that could be: aaa", x.person(0, 4), 2 + 8);
            LeadNames y = picture.in(land.replace("title aab ", "title aaa "));
            y.seed(seedFor(3, 2));
            y.feast();
            Check.same("the second: a", y.person(0, 4), 2 + 16);
            // What the first one took the second one can't gain then.
            LeadNames z = Check.landed("person p born 0 lifts 10 dents 0;person q born 0 lifts 10 "
                    + "dents 0;title a honour 0;heap a 1;");
            int seed = 0;
            while (next(seed) / 64 % 2 != 1 || next(next(seed)) / 64 % 2 != 1) {
                seed++;
            }
            z.seed(seed);
            Check.same("one alone", z.feast(), 1);
            Check.same("the first", z.title(0, 3), 1);
        });
        doc.holds("a DRAW of how many they are and 1: none by 0, else the one before that place "
                + "(the first by 1).", () -> {
            String land = "person p born 0 lifts 99 dents 0;" + World.many("title # honour 0;"
                    + "heap # 1;", 12);
            for (int place = 0; place <= 12; place++) {
                LeadNames x = Check.landed(land);
                x.seed(seedFor(13, place));
                Check.same("by " + place, x.feast(), place == 0 ? 0 : 1);
                Check.same("by " + place, x.person(0, 4), place == 0 ? 0 : 1 << place - 1);
            }
            // One who could gain none draws too, of 1.
            LeadNames y = Check.landed("person o born 0 lifts 0 dents 0;" + land);
            int seed = 0;
            while (next(seed) / 64 % 13 == next(next(seed)) / 64 % 13) {
                seed++;
            }
            y.seed(seed);
            y.feast();
            Check.same("by the second draw", y.person(1, 4),
                    1 << next(next(seed)) / 64 % 13 >> 1);
        });
        doc.holds("THE SEED is 1 at first", () -> {
            LeadNames x = Check.landed(feastLand());
            LeadNames y = Check.landed(feastLand());
            y.seed(1);
            x.feast();
            y.feast();
            for (int p = 0; p < 8; p++) {
                Check.same("person " + p, x.person(p, 4), y.person(p, 4));
            }
            Check.same("by 1103527590 / 64 % 13", x.person(0, 4), 1 << 17242618 % 13 >> 1);
        });
        doc.holds("a DRAW of n: THE SEED becomes what is left of 1103515245 times it and 12345 by "
                + "2 to the 31; (THE SEED / 64) % n.", () -> {
            int[] seeds = {0, 1, 2, 63, 64, 4711, 1 << 30, Integer.MAX_VALUE - 1,
                Integer.MAX_VALUE};
            for (int first : seeds) {
                threeFeasts(first);
            }
        });
    }

    /** One draw for each person, and no other, from feast to feast. */
    private static void threeFeasts(int first) {
        LeadNames x = Check.landed(feastLand());
        x.seed(first);
        long seed = first;
        int[] bits = new int[8];
        for (int feast = 1; feast <= 3; feast++) {
            x.feast();
            for (int p = 0; p < 8; p++) {
                seed = next(seed);
                int place = (int) (seed / 64 % (13 - Integer.bitCount(bits[p])));
                for (int t = 0; t < 12; t++) {
                    place -= bits[p] >> t & 1 ^ 1;
                    if (place == 0 && (bits[p] >> t & 1) == 0) {
                        bits[p] |= 1 << t;
                        break;
                    }
                }
                Check.same("seed " + first + ", feast " + feast + ", person " + p, x.person(p, 4),
                        bits[p]);
            }
        }
    }

    /** Eight persons who could each gain any of twelve titles, whatever the others gain. */
    private static String feastLand() {
        return World.persons(8, 99) + World.many("title # honour 0;heap # 9;", 12);
    }
}
