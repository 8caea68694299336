/** What it is, the constants, and promises 1 to 8: the tape, the land, what it told. */
final class TapeEdges {
    private static final int LEAST = Integer.MIN_VALUE;
    private static final int MOST = Integer.MAX_VALUE;
    /** "year 99;" */
    private static final int YEAR = 0x79656172;
    private static final int IS_99 = 0x2039393b;

    private TapeEdges() {
    }

    static void tell(Edges doc) {
        doc.in("What it is");
        doc.holds("An object is used for at most 512 calls after it has been made; what later "
                + "calls answer is free.", TapeEdges::calls512);
        doc.in("The constants");
        doc.holds("The constants: `NONE = -1`: None; refused.", () ->
                Check.same("NONE", LeadNames.NONE, -1));
        tellNew(doc);
        tellFeed(doc);
        tellEnd(doc);
        tellLand(doc);
        tellFault(doc);
        tellHas(doc);
        tellNames(doc);
    }

    /** All up to the last one answer as they must, and count. */
    private static void calls512() {
        LeadNames x = new LeadNames();
        for (int i = 1; i <= 80; i++) {
            Check.same("call " + i, x.feed(0, 0, 0, 0, 0), 20 * i);
        }
        for (int i = 81; i <= 511; i++) {
            Check.same("call " + i, x.feed(0, 0, 0, 0, 0), -1);
        }
        Check.same("call 512", x.status(0), 431);
    }

    private static void tellNew(Edges doc) {
        doc.in("Promise 1");
        doc.holds("No PERSONS, no TITLES.", () -> {
            LeadNames x = new LeadNames();
            Check.same("persons", x.has(0), 0);
            Check.same("titles", x.has(1), 0);
            for (int what = 0; what <= 8; what++) {
                Check.same("person 0", x.person(0, what), -1);
                Check.same("title 0", x.title(0, what), -1);
            }
            Check.same("letter of a person", x.letter(0, 0, 0), -1);
            Check.same("letter of a title", x.letter(1, 0, 0), -1);
            Check.same("loose", x.loose(0, 'a'), -1);
            Check.same("share", x.share(0, 0, 0), -1);
            Check.same("signed", x.signed(0, 0), -1);
            Check.same("row", x.row(0, 1, 0), -1);
            Check.same("common", x.common(0, 1), -1);
            Check.same("gain", x.gain(0, 0), -1);
            Check.same("drown", x.drown(0), -1);
            Check.same("heir", x.heir(0, 1), -1);
            Check.same("steal", x.steal(0, 1, 'a'), false);
            Check.same("feast", x.feast(), 0);
            Check.same("years", x.years(60), 0);
            Check.same("all the lead", x.lead(4), 0);
        });
    }

    private static void tellFeed(Edges doc) {
        doc.in("Promise 2");
        doc.holds("Twenty bytes come behind those on the tape", () -> {
            LeadNames x = new LeadNames();
            x.feed(YEAR, IS_99, 0, 0, 0);
            x.end(5);
            // Behind the five that are left: "year " and now "7;", then a byte that can't be.
            Check.same("five and twenty", x.feed(0x373b2100, 0, 0, 0, 0), 25);
            x.end(8);
            Check.same("land", x.land(), -1);
            Check.same("up to the byte that can't be", x.fault(1), 7);
            Check.same("behind none", x.feed(YEAR, IS_99, 0, 0, 0), 20);
            x.end(8);
            Check.same("land", x.land(), 1);
        });
        doc.holds("of each number the highest first", () -> {
            LeadNames x = new LeadNames();
            // "letter a 7;heap a 3;": all twenty bytes, four of each number.
            x.feed(0x6c657474, 0x65722061, 0x20373b68, 0x65617020, 0x6120333b);
            Check.same("land", x.land(), 2);
            Check.same("ounces", x.ounces('a'), 7);
            Check.same("heap", x.loose(-1, 'a'), 3);
            // A byte of 128 or more, also as the highest of a number below 0, is itself.
            x.feed(0x20202020, 0xff202020, 0, 0, 0);
            Check.same("land", x.land(), -1);
            Check.same("byte 255", x.fault(1), 4);
            x.feed(0x202020ff, 0, 0, 0, 0);
            x.land();
            Check.same("as the lowest", x.fault(1), 3);
        });
        doc.holds("how many there are", () -> {
            LeadNames x = new LeadNames();
            for (int i = 1; i <= 80; i++) {
                Check.same("feed " + i, x.feed(LEAST, MOST, -1, 0, 1), 20 * i);
            }
        });
        doc.holds("NONE, doing nothing, if there would be more than 1600.", () -> {
            LeadNames x = filled(1580);
            Check.same("1600 are not more", x.feed(0, 0, 0, 0, 0), 1600);
            Check.same("1620 are", x.feed(0, 0, 0, 0, 0), -1);
            for (int n = 1581; n <= 1600; n++) {
                LeadNames y = filled(n);
                Check.same("behind " + n, y.feed(0, 0, 0, 0, 0), -1);
                Check.same("counted", y.status(0), 1);
                Check.same("not one came", y.end(n + 1), false);
                Check.same("none went", y.end(n), true);
                Check.same("all are the ones that were", y.land(), 1);
            }
        });
    }

    /** A tape of n bytes, "year 5;" and blanks. */
    private static LeadNames filled(int n) {
        LeadNames x = new LeadNames();
        Check.tape(x, "year 5;" + " ".repeat(n - 7));
        return x;
    }

    private static void tellEnd(Edges doc) {
        doc.in("Promise 3");
        doc.holds("The tape has its first n bytes alone: true", () -> {
            LeadNames x = filled(40);
            Check.same("as many as there are", x.end(40), true);
            Check.same("one less", x.end(39), true);
            Check.same("the 40th is gone", x.end(40), false);
            Check.same("its first ones", x.end(7), true);
            Check.same("behind them", x.feed(0x21000000, 0, 0, 0, 0), 27);
            x.end(8);
            x.land();
            Check.same("they were the first ones", x.fault(1), 7);
            LeadNames y = filled(20);
            Check.same("none of them", y.end(0), true);
            Check.same("none is there", y.end(1), false);
            Check.same("none of none", y.end(0), true);
            Check.same("an empty land", y.land(), 0);
            Check.same("none of a new one", new LeadNames().end(0), true);
            cutEverywhere();
        });
        doc.holds("false, doing nothing, if it has not so many, or n is below 0.", () -> {
            int[] wrong = {21, 40, 1600, 1601, MOST, -1, -20, LEAST};
            for (int n : wrong) {
                State.refused(World::fed, 0, 0, x -> x.end(n) ? 1 : 0);
                LeadNames x = filled(20);
                x.end(n);
                Check.same("all bytes stay", x.end(20), true);
                Check.same("as they were", x.land(), 1);
            }
            Check.same("1 of a new one", new LeadNames().end(1), false);
            Check.same("1601 of 1600", filled(1600).end(1601), false);
        });
    }

    /** Of the bytes behind the first n nothing is seen, also where they would go on. */
    private static void cutEverywhere() {
        String text = "letter a 17;year 99;title abcdef honour 999;heap a 10;";
        for (int n = 0; n <= text.length(); n++) {
            LeadNames x = new LeadNames();
            LeadNames y = new LeadNames();
            Check.tape(x, text);
            Check.tape(y, text.substring(0, n));
            x.end(n);
            Check.same("land of the first " + n, x.land(), y.land());
            Check.same("its fault", x.fault(0), y.fault(0));
            Check.same("its place", x.fault(1), y.fault(1));
        }
    }

    private static void tellLand(Edges doc) {
        doc.in("Promise 4");
        doc.holds("The tape (it goes) is THE LAND: how many STATEMENTS", () -> {
            LeadNames x = filled(20);
            Check.same("land", x.land(), 1);
            Check.same("it went", x.end(1), false);
            Check.same("an empty one", x.land(), 0);
            Check.same("is a land too", x.has(5), 0);
            Check.tape(x, "year @");
            Check.same("with a fault", x.land(), -1);
            Check.same("it went too", x.end(1), false);
            Check.tape(x, "year 5;".repeat(228));
            Check.same("many", x.land(), 228);
        });
        doc.holds("is THE LAND", () -> {
            // Nothing of the lands ahead of it, nor of what was read of one with a fault.
            String rich = World.LAND + World.HAD + "age 0 9;age 5 7;bears 9 when all;bridge a 9;";
            String small = "person v born 0 lifts 9 dents 0;person w born 0 lifts 9 dents 0;"
                    + "title a honour 0;title b honour 0;bears 1 when 1>2;";
            LeadNames x = new LeadNames();
            LeadNames y = new LeadNames();
            String[] lands = {rich, rich + "x", small, rich + "x", rich, small};
            for (String land : lands) {
                Check.tape(x, land);
                x.land();
            }
            Check.tape(y, small);
            y.land();
            Check.same("all", State.of(x), State.of(y));
        });
        doc.holds("THE LAND: how many STATEMENTS", () -> {
            // The longest law that there can be, as often as one likes.
            String law = "bears " + "1+".repeat(791) + "1 when all;";
            LeadNames x = new LeadNames();
            for (int i = 0; i < 5; i++) {
                Check.tape(x, law);
                Check.same("land " + i, x.land(), 1);
            }
        });
        doc.holds("NONE with a FAULT (all stays).", () -> {
            String[] faults = {"x", "letter a 9;heap a 9;year 7;person zed born 1 lifts 1 dents 1;"
                + "title q honour 5;has zed q;age 5 5;bears 9 when all;bridge b 5", "year 100;",
                "title a honour 1;title a honour 1;", "has a b;", World.persons(9, 1)};
            for (String text : faults) {
                State.refused(World::busy, 1, -1, x -> {
                    Check.tape(x, text);
                    return x.land();
                });
            }
            LeadNames x = World.fresh();
            Check.tape(x, "letter a 9;age 5 5;bears 9 when all;x");
            x.land();
            Check.same("ounces", x.ounces('a'), 5);
            Check.same("limit", x.person(0, 1), 60);
        });
        doc.holds("Without one there are no LOANS, BULLETS, MOVES, SPANS that are over, nothing in "
                + "THE RIVER", () -> {
            LeadNames x = landAgain();
            Check.same("loans", x.has(6), 0);
            Check.same("loan", x.loan(0, 0), -1);
            Check.same("bullets", x.has(7), 0);
            Check.same("their ounces", x.lead(3), 0);
            Check.same("sets of them", x.bullets(60, 0), 0);
            Check.same("moves", x.has(8), 0);
            Check.same("move", x.moved(0, 0), -1);
            Check.same("span", x.span(0, 0), -1);
            Check.same("the river", x.lead(2), 0);
            Check.same("nor loose letters", x.person(1, 5) + x.person(2, 5), 0);
        });
        doc.holds("TITLES that are had are BORNE from YEAR on", () -> {
            LeadNames x = landAgain();
            Check.same("in the year", x.signed(0, 50), 1);
            Check.same("not in the one ahead", x.signed(0, 49), 0);
            Check.same("by who had it lost", x.signed(3, 50), 2);
            x.years(3);
            x.shed(0, 0);
            Check.same("a span from", x.span(0, 2), 50);
            Check.same("to", x.span(0, 3), 53);
        });
        doc.holds("THE SEED and REFUSALS stay.", () -> {
            LeadNames x = landAgain();
            int[] due = {0, 1, 1, 1, 1, 1};
            for (int what = 0; what < due.length; what++) {
                Check.same("refusals " + what, x.status(what), due[what]);
            }
            LeadNames y = World.fresh();
            y.seed(4711);
            LeadNames z = World.fresh();
            x.feast();
            y.feast();
            z.feast();
            Check.same("the seed", titles(x), titles(y));
            Check.same("which is not that of a new one", titles(x).equals(titles(z)), false);
        });
    }

    private static LeadNames landAgain() {
        LeadNames x = World.busy();
        Check.tape(x, World.LAND + World.HAD);
        Check.same("land", x.land() > 0, true);
        return x;
    }

    private static String titles(LeadNames x) {
        StringBuilder text = new StringBuilder();
        for (int p = 0; p < 4; p++) {
            text.append(x.person(p, 4)).append(' ');
        }
        return text.toString();
    }

    private static void tellFault(Edges doc) {
        doc.in("Promise 5");
        doc.holds("Of the latest land(): its FAULT (what 0; 0 without, and ahead of any)", () -> {
            LeadNames x = new LeadNames();
            Check.same("ahead of any", x.fault(0), 0);
            Check.tape(x, "year 100;");
            x.land();
            Check.same("a fault", x.fault(0), 4);
            Check.tape(x, "has a b;");
            x.land();
            Check.same("the latest", x.fault(0), 3);
            x.on();
            Check.same("on() is no land", x.fault(0), 3);
            x.land();
            Check.same("without", x.fault(0), 0);
        });
        doc.holds("its place (1; NONE without).", () -> {
            LeadNames x = new LeadNames();
            Check.same("ahead of any", x.fault(1), -1);
            Check.tape(x, "year 100;");
            x.land();
            Check.same("a place", x.fault(1), 5);
            Check.tape(x, "x");
            x.land();
            Check.same("the latest, 0", x.fault(1), 0);
            x.land();
            Check.same("without", x.fault(1), -1);
        });
        doc.holds("NONE for another what.", () -> {
            LeadNames x = new LeadNames();
            Check.tape(x, "year 100;");
            x.land();
            int[] others = {2, 3, -1, LEAST, MOST};
            for (int what : others) {
                Check.same("fault(" + what + ")", x.fault(what), -1);
            }
        });
    }

    private static void tellHas(Edges doc) {
        doc.in("Promise 6");
        doc.holds("How many there are: 0 PERSONS, 1 TITLES, 2 AGES, 3 LAWS, 4 BRIDGES, 5 YEAR, "
                + "6 LOANS, 7 BULLETS, 8 MOVES that are kept.", () -> {
            LeadNames x = World.busy();
            int[] due = {4, 5, 0, 0, 1, 51, 1, 1, 4};
            for (int what = 0; what < due.length; what++) {
                Check.same("has(" + what + ")", x.has(what), due[what]);
                Check.same("of a new one", new LeadNames().has(what), 0);
            }
            LeadNames y = Check.landed(World.persons(8, 0) + World.many("title # honour 0;", 12)
                    + World.many("age $ 0;", 6) + World.many("bears 0 when all;", 8)
                    + World.many("bridge b# 0;", 4) + "year 99;");
            int[] most = {8, 12, 6, 8, 4, 99, 0, 0, 0};
            for (int what = 0; what < most.length; what++) {
                Check.same("has(" + what + ")", y.has(what), most[what]);
            }
        });
        doc.holds("NONE for others.", () -> {
            int[] others = {9, 10, -1, LEAST, MOST};
            for (int what : others) {
                Check.same("has(" + what + ")", World.busy().has(what), -1);
            }
        });
    }

    private static void tellNames(Edges doc) {
        doc.in("Promise 7");
        doc.holds("Letter k of the NAME of a PERSON (kind 0), TITLE (1), BRIDGE (2), 97 .. 122",
                () -> {
            LeadNames x = Check.landed("person azbycx born 0 lifts 0 dents 0;title z honour 0;"
                    + "title az honour 0;bridge zabcde 0;");
            String[] names = {"azbycx", "az", "zabcde"};
            for (int kind = 0; kind < 3; kind++) {
                for (int k = 0; k < names[kind].length(); k++) {
                    Check.same(names[kind] + " " + k, x.letter(kind, kind == 1 ? 1 : 0, k),
                            names[kind].charAt(k));
                }
            }
        });
        doc.holds("NONE if there is none such.", () -> {
            LeadNames x = Check.landed("person azbycx born 0 lifts 0 dents 0;title z honour 0;"
                    + "title az honour 0;bridge zabcde 0;");
            int[][] none = {{0, 0, 6}, {0, 0, -1}, {0, 0, 7}, {0, 0, 32}, {0, 0, MOST},
                {0, 0, LEAST}, {1, 0, 1}, {1, 1, 2}, {2, 0, 6}, {0, 1, 0}, {1, 2, 0}, {2, 1, 0},
                {0, -1, 0}, {1, -1, 0}, {2, -1, 0}, {0, MOST, 0}, {1, LEAST, 0}, {3, 0, 0},
                {-1, 0, 0}, {LEAST, 0, 0}, {MOST, 0, 0}};
            for (int[] n : none) {
                Check.same("letter(" + n[0] + ", " + n[1] + ", " + n[2] + ")",
                        x.letter(n[0], n[1], n[2]), -1);
            }
        });
        doc.in("Promise 8");
        doc.holds("Ounces of a letter (97 .. 122)", () -> {
            LeadNames x = Check.landed("letter a 3;letter z 99;");
            Check.same("the first", x.ounces(97), 3);
            Check.same("between", x.ounces(98), 10);
            Check.same("the last", x.ounces(122), 99);
            Check.same("of a new one", new LeadNames().ounces(97), 10);
        });
        doc.holds("NONE for others.", () -> {
            LeadNames x = Check.landed("letter a 3;letter z 99;");
            int[] others = {96, 123, 0, 1, 25, -1, 65, 90, LEAST, MOST, LEAST + 97};
            for (int letter : others) {
                Check.same("ounces(" + letter + ")", x.ounces(letter), -1);
            }
        });
    }
}
