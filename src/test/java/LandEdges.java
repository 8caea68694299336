/** Terms I: what a land's text may be, its limits, and its faults. */
final class LandEdges {
    private static final String ADA = "person ada born 5 lifts 90 dents 10;";
    private static final String TEA = "title tea honour 9;";
    private static final String OWN = "letter person born lifts dents title honour has heap age "
            + "bears bridge year when or and not all old force names min max";

    private LandEdges() {
    }

    static void tell(Edges doc) {
        doc.in("Terms I");
        tellBytes(doc);
        tellLetters(doc);
        tellPersonsAndTitles(doc);
        tellAgesAndBridges(doc);
        tellTests(doc);
        tellSums(doc);
        tellNames(doc);
        tellFirstFault(doc);
        tellWhereItBreaks(doc);
        tellOtherFaults(doc);
    }

    private static void tellBytes(Edges doc) {
        doc.holds("THE LAND is a text, with WORDS (1 to 6 letters a .. z)", () -> {
            Check.good("title a honour 1;title z honour 1;title azbycx honour 1;", 3);
            Check.bad("title @` honour 1;", 1);
            Check.bad("title @{ honour 1;", 1);
            Check.bad("title @A honour 1;", 1);
            Check.bad("title @Z honour 1;", 1);
            Check.bad("title a@{ honour 1;", 1);
            Check.bad("title a@` honour 1;", 1);
            Check.bad("title @\u00e1 honour 1;", 1);
            Check.bad("title abcdef@g honour 1;", 1);
        });
        doc.holds("NUMBERS (1 to 4 digits)", () -> {
            Check.same("one digit", Check.landed("year 7;").has(5), 7);
            Check.same("four digits", Check.landed("year 0097;").has(5), 97);
            Check.good("bridge b 9999;", 1);
            Check.good("bridge b 0000;", 1);
            Check.bad("year @/;", 1);
            Check.bad("year @:;", 1);
            Check.bad("year 9@:;", 1);
            Check.bad("year 0000@7;", 1);
            Check.bad("bridge b 1000@0;", 1);
        });
        doc.holds("and signs, blanks (10, 32) between where one likes", LandEdges::blanks);
        doc.holds("(WORDS and NUMBERS side by side need one)", () -> {
            Check.good("year\n5;", 1);
            Check.good("year 5;", 1);
            Check.bad("year@5;", 1);
            Check.bad("bears 5@when all;", 1);
            Check.bad("title ab honour@5;", 1);
            Check.bad("age 5@age 5;", 1);
            Check.bad(ADA + TEA + "has ada@5tea;", 1);
            Check.bad(ADA + TEA + "has ada tea@5;", 1);
            Check.bad("@yeara 5;", 1);
            Check.bad("age 55@;", 1);
        });
        doc.holds("{ STATEMENT ; }", () -> {
            Check.good("", 0);
            Check.good(" \n\n ", 0);
            Check.good("year 5;", 1);
            Check.good("year 5;year 5;", 2);
            Check.bad("@;", 1);
            Check.bad("year 5;@;", 1);
            Check.bad("year 5@", 1);
            Check.bad("year 5 @year 6;", 1);
        });
    }

    private static void blanks() {
        String[] parts = ("person p born 5 lifts 50 dents 5 ; bears ( 1 + 2 ) * min ( 3 , 4 ) / 1 "
                + "- max ( 0 , 1 ) % 2 when [ old < 5 or not 1 = 2 ] and 3 > 2 ;").split(" ");
        String close = "person p born 5 lifts 50 dents 5;bears(1+2)*min(3,4)/1-max(0,1)%2 "
                + "when[old<5 or not 1=2]and 3>2;";
        String[] gaps = {" ", "\n", "\n  \n "};
        for (String gap : gaps) {
            String text = gap + String.join(gap, parts) + gap;
            Check.same("limit of " + text, Check.landed(text).person(0, 1), 58);
        }
        Check.same("limit of " + close, Check.landed(close).person(0, 1), 58);
        int[] others = {0, 1, 9, 11, 12, 13, 31, 33, 127, 160, 255};
        for (int other : others) {
            Check.bad("@" + (char) other + "year 5;", 1);
            Check.bad("year@" + (char) other + "5;", 1);
            Check.bad("year 5;@" + (char) other, 1);
        }
    }

    private static void tellLetters(Edges doc) {
        doc.holds("STATEMENTS: letter X N (X a WORD of one letter, no OWN WORD", () -> {
            Check.good("letter a 5;letter z 5;", 2);
            // A letter is no NAME: it may be one, and may have been told.
            Check.good("title a honour 1;letter a 5;letter a 5;", 3);
            Check.bad("letter @ab 5;", 1);
            Check.bad("letter @or 5;", 1);
            Check.bad("letter @5 5;", 1);
            Check.bad("letter @; 5;", 1);
        });
        doc.holds("ounces 1 .. 99", () -> {
            limits("letter a #;", 1, 99, 4);
            Check.same("1", Check.landed("letter a 1;").ounces('a'), 1);
            Check.same("99", Check.landed("letter a 99;").ounces('a'), 99);
        });
        doc.holds("the last one counts; 10 without)", () -> {
            LeadNames x = Check.landed("letter a 3;title ab honour 1;letter b 4;letter a 7;");
            Check.same("the last one", x.ounces('a'), 7);
            Check.same("in titles told ahead too", x.title(0, 0), 11);
            Check.same("without", x.ounces('c'), 10);
            Check.same("without", Check.landed("").ounces('z'), 10);
        });
        doc.holds("heap X N (letters in THE HEAP, 0 .. 99", () -> {
            limits("heap z #;", 0, 99, 4);
            Check.same("0", Check.landed("heap a 0;").loose(-1, 'a'), 0);
            Check.same("99", Check.landed("heap z 99;").loose(-1, 'z'), 99);
            Check.bad("heap @ab 5;", 1);
            Check.bad("heap @all 5;", 1);
        });
        doc.holds("THE HEAP, 0 .. 99; the last one counts; 0 without)", () -> {
            LeadNames x = Check.landed("heap a 9;heap b 5;heap a 4;heap b 0;");
            Check.same("the last one", x.loose(-1, 'a'), 4);
            Check.same("the last one, 0", x.loose(-1, 'b'), 0);
            Check.same("without", x.loose(-1, 'c'), 0);
        });
        doc.holds("year N (0 .. 99; the last one counts; 0 without)", () -> {
            limits("year #;", 0, 99, 4);
            Check.same("0", Check.landed("year 0;").has(5), 0);
            Check.same("99", Check.landed("year 99;").has(5), 99);
            Check.same("the last one", Check.landed("year 9;year 3;").has(5), 3);
            Check.same("the last one, 0", Check.landed("year 9;year 0;").has(5), 0);
            LeadNames x = Check.landed("year 9;");
            x.land();
            Check.same("without, also behind another land", x.has(5), 0);
        });
    }

    /** A number at # from least to most, the fault at its first byte outside of that. */
    private static void limits(String form, int least, int most, int fault) {
        Check.good(form.replace("#", "" + least), form.split(";").length);
        Check.good(form.replace("#", "" + most), form.split(";").length);
        Check.bad(form.replace("#", "@" + (most + 1)), fault);
        if (least > 0) {
            Check.bad(form.replace("#", "@" + (least - 1)), fault);
        }
    }

    /** So many of a kind, and the fault at the first byte of one more. */
    private static void mostOf(String form, int most) {
        Check.good(World.many(form, most), most);
        Check.bad(World.many(form, most) + " @" + World.many(form, most + 1)
                .substring(World.many(form, most).length()), 5);
    }

    private static void tellPersonsAndTitles(Edges doc) {
        doc.holds("person NAME born N lifts N dents N (YEARS 0 .. 99", () -> {
            limits("person a born # lifts 1 dents 1;", 0, 99, 4);
            Check.same("born in 0", Check.landed("person a born 0 lifts 1 dents 1;year 99;")
                    .person(0, 0), 99);
            Check.same("born in 99", Check.landed("person a born 99 lifts 1 dents 1;year 99;")
                    .person(0, 0), 0);
            Check.bad("person a @lifts 1 born 1 dents 1;", 1);
            Check.bad("person a born 1 lifts 1@;", 1);
        });
        doc.holds("0 .. 999 ounces", () -> {
            limits("person a born 1 lifts # dents 1;", 0, 999, 4);
            Check.same("0", Check.landed("person a born 1 lifts 0 dents 1;").person(0, 1), 0);
            Check.same("999", Check.landed("person a born 1 lifts 999 dents 1;").person(0, 1),
                    999);
        });
        doc.holds("0 .. 100 of 100", () -> {
            limits("person a born 1 lifts 1 dents #;", 0, 100, 4);
            LeadNames x = Check.landed("person a born 1 lifts 1 dents 0;"
                    + "person b born 1 lifts 1 dents 100;");
            Check.same("0 of 100, none dented", x.share(0, 1, 0), 1000);
            Check.same("0 of 100, one dented", x.share(0, 1, 1), 0);
            Check.same("100 of 100, one dented", x.share(1, 1, 1), 1000);
            Check.same("100 of 100, none dented", x.share(1, 1, 0), 0);
        });
        doc.holds("8 PERSONS", () -> {
            mostOf("person p# born 1 lifts 2 dents 3;", 8);
            Check.same("eight", Check.landed(World.persons(8, 5)).has(0), 8);
        });
        doc.holds("title NAME honour N (0 .. 999", () -> {
            limits("title a honour #;", 0, 999, 4);
            Check.same("0", Check.landed("title a honour 0;").title(0, 1), 0);
            Check.same("999", Check.landed("title a honour 999;").title(0, 1), 999);
        });
        doc.holds("12 TITLES", () -> {
            mostOf("title t# honour 5;", 12);
            Check.same("twelve", Check.landed(World.many("title t# honour 5;", 12)).has(1), 12);
        });
        doc.holds("has NAME NAME (a PERSON, a TITLE that it has not)", () -> {
            Check.good(ADA + TEA + "has ada tea;", 3);
            Check.good(ADA + TEA + "person b born 1 lifts 1 dents 1;has ada tea;has b tea;", 5);
            Check.bad(ADA + TEA + "has ada tea;has ada @tea;", 3);
            Check.bad(ADA + World.many("title # honour 5;", 12) + "has ada l;has ada k;has ada @l;",
                    3);
            Check.bad(ADA + TEA + "has @tea tea;", 3);
            Check.bad(ADA + TEA + "has ada @ada;", 3);
            LeadNames x = Check.landed(World.persons(8, 5) + World.many("title # honour 0;", 12)
                    + World.many("has ph #;", 12));
            Check.same("the last person has all twelve", x.person(7, 4), 4095);
            Check.same("the one ahead has none", x.person(6, 4), 0);
        });
    }

    private static int limitAt(int year, String ages) {
        return Check.landed("person a born 0 lifts 50 dents 0;year " + year + ";" + ages)
                .person(0, 1);
    }

    private static void tellAgesAndBridges(Edges doc) {
        doc.holds("age N N (of an age from N on, 0 .. 99", () -> {
            limits("age # 5;", 0, 99, 4);
            Check.same("from 0 on", limitAt(0, "age 0 10;"), 5);
            Check.same("just ahead of 99", limitAt(98, "age 99 10;"), 50);
            Check.same("from 99 on", limitAt(99, "age 99 10;"), 5);
        });
        doc.holds("one lifts so many of 100, 0 .. 200", () -> {
            limits("age 5 #;", 0, 200, 4);
            Check.same("0 of 100", limitAt(0, "age 0 0;"), 0);
            Check.same("200 of 100", limitAt(0, "age 0 200;"), 100);
        });
        doc.holds("each begins behind the one ahead", () -> {
            Check.good("age 0 5;age 1 5;age 98 5;age 99 5;", 4);
            Check.bad("age 5 5;age @5 5;", 4);
            Check.bad("age 5 5;age @4 5;", 4);
            Check.bad("age 0 5;age @0 5;", 4);
            Check.bad("age 99 5;age @99 5;", 4);
            Check.bad("age 99 5;age @100 5;", 4);
            Check.bad("age 5 5;age 7 5;age @6 5;", 4);
        });
        doc.holds("6 AGES", () -> {
            mostOf("age $ 5;", 6);
            Check.same("six", Check.landed(World.many("age $ 5;", 6)).has(2), 6);
        });
        doc.holds("bears SUM when TEST (8 LAWS)", () -> {
            mostOf("bears $ when all;", 8);
            String laws = World.many("bears 9 when 1>2;", 7);
            Check.same("eight", Check.landed(laws + "bears 7 when all;").has(3), 8);
            Check.same("the eighth holds", limitAt(0, laws + "bears 7 when all;"), 57);
            Check.bad("bears @when all;", 1);
            Check.bad("bears 5 @;", 1);
            Check.bad("bears 5 when @;", 1);
            Check.bad("bears @all when all;", 1);
        });
        doc.holds("bridge NAME N (0 .. 9999 ounces", () -> {
            Check.good("bridge a 0;bridge b 9999;", 2);
            Check.bad("bridge a 9999@9;", 1);
            LeadNames x = Check.landed("person p born 0 lifts 0 dents 0;title a honour 1;has p a;"
                    + "letter a 1;bridge b 0;bridge c 1;bridge d 9999;");
            Check.same("0 bears nothing", x.goings(0, 1), -1);
            Check.same("1 bears an ounce", x.goings(1, 1), 1);
            Check.same("9999", x.goings(2, 1), 1);
        });
        doc.holds("4 BRIDGES", () -> {
            mostOf("bridge b# 5;", 4);
            Check.same("four", Check.landed(World.many("bridge b# 5;", 4)).has(4), 4);
        });
    }

    /** What a law of this sum gives to one who lifts nothing, is 32 old and has two names. */
    private static int sum(String text) {
        return Check.landed("person x born 1 lifts 1 dents 1;person ada born 10 lifts 7 dents 0;"
                + "title a honour 7;title b honour 8;has ada a;has ada b;year 42;age 0 0;bears "
                + text + " when all;").person(1, 1);
    }

    private static void sums(String text, int due) {
        Check.same("bears " + text, sum(text), due);
    }

    private static void tests(String text, boolean due) {
        Check.same("when " + text, Check.landed("person ada born 10 lifts 3 dents 0;bears 5 when "
                + text + ";").person(0, 1), due ? 8 : 3);
    }

    private static void tellTests(Edges doc) {
        doc.holds("TEST: BOTH { or BOTH }.", () -> {
            tests("all", true);
            tests("1>2 or 1>2", false);
            tests("1>2 or 1>2 or all", true);
            tests("all or all and 1>2", true);
            Check.bad("bears 1 when @or all;", 1);
            Check.bad("bears 1 when all or@;", 1);
            Check.bad("bears 1 when all or @or all;", 1);
        });
        doc.holds("BOTH: FACT { and FACT }.", () -> {
            tests("all and all", true);
            tests("all and all and 1>2", false);
            tests("1>2 and all or all", true);
            tests("1>2 and [all or all]", false);
            Check.bad("bears 1 when @and all;", 1);
            Check.bad("bears 1 when all and@;", 1);
        });
        doc.holds("FACT: not FACT; [ TEST ] ; all; SUM SIGN SUM, SIGN being < or > or = .", () -> {
            tests("not all", false);
            tests("not not not all", false);
            tests("not 1=2", true);
            tests("not all or all", true);
            tests("not 1<2", false);
            tests("not 2=2", false);
            tests("not 3>2", false);
            tests("1<2 and 2=2 and 3>2 and all", true);
            tests("not [all or all]", false);
            tests("1<2", true);
            tests("2<2", false);
            tests("3<2", false);
            tests("1>2", false);
            tests("2>2", false);
            tests("3>2", true);
            tests("1=2", false);
            tests("2=2", true);
            tests("3=2", false);
            Check.bad("bears 1 when not @;", 1);
            Check.bad("bears 1 when [@];", 1);
            Check.bad("bears 1 when [all@;", 1);
            Check.bad("bears 1 when [all@);", 1);
            Check.bad("bears 1 when 1@;", 1);
            Check.bad("bears 1 when 1<@;", 1);
            Check.bad("bears 1 when 1<@=2;", 1);
            Check.bad("bears 1 when 1<2@<3;", 1);
            Check.bad("bears 1 when [all]@=1;", 1);
            // As many as there is room for on the tape.
            Check.good("bears 1 when " + "not ".repeat(395) + "all;", 1);
            tests("not ".repeat(380) + "all", true);
        });
    }

    private static void tellSums(Edges doc) {
        doc.holds("SUM: PRODUCT { + PRODUCT, or - PRODUCT }.", () -> {
            sums("2+3*4", 14);
            sums("20-2*3", 14);
            Check.bad("bears @-1 when all;", 1);
            Check.bad("bears 1+ @when all;", 1);
            Check.bad("bears 1+@-1 when all;", 1);
        });
        doc.holds("PRODUCT: PART { * PART, or / PART, or % PART }.", () -> {
            sums("2*3*4", 24);
            sums("100/3", 33);
            sums("100%3", 1);
            Check.bad("bears @*1 when all;", 1);
            Check.bad("bears 1*@/1 when all;", 1);
            Check.bad("bears 1% @when all;", 1);
        });
        doc.holds("PART: N; person; old; force; honour; names; ( SUM ) ; min ( SUM , SUM ) ; "
                + "max ( SUM , SUM ) .", () -> {
            sums("0", 0);
            sums("9999", 9999);
            sums("(5)", 5);
            sums("min(3,4)*10+max(3,4)", 34);
            sums("min(4,3)*10+max(4,3)", 34);
            sums("min(5,5)+max(0-1,0-2)", 4);
            Check.bad("bears (@) when all;", 1);
            Check.bad("bears (1 @when all;", 1);
            Check.bad("bears min @1 when all;", 1);
            Check.bad("bears min(1@) when all;", 1);
            Check.bad("bears max(1,@) when all;", 1);
            Check.bad("bears max(1,2@,3) when all;", 1);
            Check.bad("bears @ada when all;", 1);
            Check.bad("bears @born when all;", 1);
        });
        doc.holds("(person is the number of the PERSON, old its age, force what it lifts as told, "
                + "honour and names what its COAT has.)", () -> {
            sums("person", 1);
            sums("old", 32);
            sums("force", 7);
            sums("honour", 15);
            sums("names", 2);
            LeadNames x = Check.landed("person a born 50 lifts 0 dents 0;bears person+old+force+"
                    + "honour+names when all;");
            Check.same("the first of persons, not born yet, bare", x.person(0, 1), 0);
        });
        doc.holds("All from the left on", () -> {
            sums("20-5-3", 12);
            sums("100/7/2", 7);
            sums("100/7*7", 98);
            sums("100%7*3", 6);
            sums("7*100%30", 10);
        });
        doc.holds("/ gives the greatest whole number not above, % what then lacks", () -> {
            sums("1000+7/2", 1003);
            sums("1000+(0-7)/2", 996);
            sums("1000+7/(0-2)", 996);
            sums("1000+(0-7)/(0-2)", 1003);
            sums("1000+(0-8)/2", 996);
            sums("1000+7%2", 1001);
            sums("1000+(0-7)%2", 1001);
            sums("1000+7%(0-2)", 999);
            sums("1000+(0-7)%(0-2)", 999);
            sums("1000+(0-8)%2", 1000);
        });
        doc.holds("(by 0 both give 0)", () -> {
            sums("1000+7/0", 1000);
            sums("1000+7%0", 1000);
            sums("1000+(0-7)/(1-1)", 1000);
            sums("1000+0%0", 1000);
        });
        doc.holds("each sum, difference, product above 10 to the 6 is that, below -10 to the 6 "
                + "likewise.", LandEdges::heldSums);
    }

    /** A million is 1000*1000; what is above it must not be seen when it comes back below. */
    private static void heldSums() {
        sums("1000*1000-999*1000", 1000);
        sums("1000*1000+1-999*1000", 1000);
        sums("1000*1000+0-999*1000", 1000);
        sums("999*1001+1-999*1000", 1000);
        sums("999*1001+2-999*1000", 1000);
        sums("1001*1000-999*1000", 1000);
        sums("9999*9999/1000", 1000);
        sums("9999*9999*9999/1000", 1000);
        sums("0-1000*1000+1000*1000+5", 5);
        sums("0-1000*1000-1+1000*1000+5", 5);
        sums("0-999*1001-1+1000*1000+5", 5);
        sums("0-999*1001-2+1000*1000+5", 5);
        sums("(0-1001)*1000+1000*1000+5", 5);
        sums("(0-9999)*9999*9999+1000*1000+5", 5);
        sums("(0-9999)*(0-9999)/1000", 1000);
    }

    private static void tellNames(Edges doc) {
        doc.holds("OWN WORDS, which no NAME is: letter, person, born, lifts, dents, title, honour, "
                + "has, heap, age, bears, bridge, year, when, or, and, not, all, old, force, "
                + "names, min, max.", () -> {
            for (String own : OWN.split(" ")) {
                Check.bad("title @" + own + " honour 5;", 1);
                Check.bad("person @" + own + " born 5 lifts 5 dents 5;", 1);
                Check.bad("bridge @" + own + " 5;", 1);
                String almost = own.substring(0, own.length() - 1);
                Check.good("title " + almost + " honour 5;", 1);
            }
            Check.good("title ors honour 5;title heaps honour 5;title my honour 5;", 3);
        });
        doc.holds("NAMES are unlike ones, each told ahead of where it is asked.", () -> {
            String[] givers = {"person # born 5 lifts 5 dents 5;", "title # honour 5;",
                "bridge # 5;"};
            for (String one : givers) {
                for (String other : givers) {
                    Check.bad(one.replace("#", "ada") + other.replace("#", "@ada"), 2);
                    Check.good(one.replace("#", "ada") + other.replace("#", "adb"), 2);
                }
            }
            Check.bad("has @ada tea;" + ADA + TEA, 3);
            Check.bad(ADA + "has ada @tea;" + TEA, 3);
        });
    }

    private static void tellFirstFault(Edges doc) {
        doc.holds("FAULTS, the first along the text", () -> {
            String[] faults = {"year @;", "title @ada honour 1;", "has @tea tea;", "year @100;",
                "bears ((((((((@(1))))))))) when all;"};
            for (int one = 0; one < faults.length; one++) {
                for (String other : faults) {
                    Check.bad(ADA + TEA + faults[one] + other.replace("@", ""), one + 1);
                }
            }
            // Of two in one statement too.
            Check.bad(ADA + "person @ada born 100 lifts 1000 dents 101;", 2);
            Check.bad(ADA + "person b born @100 lifts 1000 dents 101;", 4);
            Check.bad(ADA + "person b born 10 lifts @1000 dents 1010x;", 4);
            Check.bad("age @100 201;", 4);
            Check.bad(ADA + TEA + "has @tea ada;", 3);
            Check.bad(ADA + "title @ada9;", 2);
            Check.bad(ADA + "has @b9;", 3);
            Check.bad("year @100x;", 4);
        });
    }

    private static void tellWhereItBreaks(Edges doc) {
        doc.holds("1 the first byte with which no LAND goes on", () -> {
            Check.bad("@!", 1);
            Check.bad("year 5;@!", 1);
            Check.bad("year 5@,", 1);
            Check.bad("year 5; @] year 5;", 1);
            Check.bad("bears 5 when [all@[;", 1);
            Check.bad("bears 5 when 5 @when;", 1);
            Check.bad("bears 5 @and all;", 1);
        });
        doc.holds("(WORDS, NUMBERS whole, at their first byte", () -> {
            Check.bad("@yea 5;", 1);
            Check.bad("@years 5;", 1);
            Check.bad("@yea", 1);
            Check.bad("title ab @honou 5;", 1);
            Check.bad("title ab @honors 5;", 1);
            Check.bad("@1234;", 1);
            Check.bad("title @1234 honour 5;", 1);
            Check.bad("year @when;", 1);
            Check.bad("bears 1 when all @orr all;", 1);
        });
        doc.holds("at the text's length, if it ends too soon", LandEdges::endsTooSoon);
        doc.holds("a 7th letter, a 5th digit at itself, whatever may stand there", () -> {
            Check.bad("abcdef@g", 1);
            Check.bad("abcdef@gh 5;", 1);
            Check.bad("letter@s a 5;", 1);
            Check.bad("year abcdef@g;", 1);
            Check.bad("year 5 abcdef@g;", 1);
            Check.bad("title abcdef@g honour 5;", 1);
            Check.bad("title abcdef honour 5;title abcdef@g honour 5;", 1);
            Check.bad("letter abcdef@g 5;", 1);
            Check.bad("1234@5", 1);
            Check.bad("year 1234@5;", 1);
            Check.bad("year 0000@0;", 1);
            Check.bad("title 1234@56 honour 5;", 1);
            Check.bad("year 5 1234@5;", 1);
            Check.bad("bears 1234@5 when all;", 1);
        });
        doc.holds("an OWN WORD where a NAME must be", () -> {
            Check.bad("title @year honour 5;", 1);
            Check.bad("person @dents born 5 lifts 5 dents 5;", 1);
            Check.bad("bridge @or 5;", 1);
            Check.bad(ADA + TEA + "has @min tea;", 1);
            Check.bad(ADA + TEA + "has ada @max;", 1);
        });
        doc.holds("of letter, heap a WORD of more letters than one, at its first byte)", () -> {
            Check.bad("letter @ab 5;", 1);
            Check.bad("letter @abcdef 5;", 1);
            Check.bad("heap @ab 5;", 1);
            Check.bad("heap @abcdef 5;", 1);
            Check.bad("letter @aa 100;", 1);
        });
    }

    /** Behind each word, number and sign of a land that has everything. */
    private static void endsTooSoon() {
        String[] parts = ("letter a 5 ; person p born 1 lifts 2 dents 3 ; title t honour 4 ; "
                + "has p t ; heap a 6 ; age 7 8 ; bears ( 1 + old ) * min ( 2 , 3 ) - max ( 4 "
                + ", 5 ) when not [ all or 1 < 2 ] and person = 0 ; bridge b 9 ; year 10 ;").split(" ");
        String text = "";
        int statements = 0;
        for (String part : parts) {
            text += part;
            statements += part.equals(";") ? 1 : 0;
            if (part.equals(";")) {
                Check.good(text, statements);
                Check.good(text + " \n", statements);
            } else {
                Check.bad(text + "@", 1);
                Check.bad(text + " \n@", 1);
            }
            text += " ";
        }
        String full = " ".repeat(1594) + "year 5";
        Check.bad(full + "@", 1);
        Check.good(" ".repeat(1593) + "year 5;", 1);
    }

    private static void tellOtherFaults(Edges doc) {
        doc.holds("2 a NAME to be given that is there already, at its first byte", () -> {
            Check.bad(ADA + "  person @ada born 5 lifts 5 dents 5;", 2);
            Check.bad(TEA + "title \n@tea honour 5;", 2);
            Check.bad("bridge b 5;bridge @b 5;", 2);
        });
        doc.holds("3 a NAME that is none of what is asked, a TITLE that the PERSON has, at its "
                + "first byte", () -> {
            Check.bad(ADA + TEA + "has @ben tea;", 3);
            Check.bad(ADA + TEA + "has ada @ten;", 3);
            Check.bad(ADA + TEA + "has @tea tea;", 3);
            Check.bad(ADA + TEA + "has ada @ada;", 3);
            Check.bad(ADA + TEA + "bridge b 5;has @b tea;", 3);
            Check.bad(ADA + TEA + "bridge b 5;has ada @b;", 3);
            Check.bad(ADA + TEA + "has ada tea;has ada @tea;", 3);
            Check.bad("has @a b;", 3);
        });
        doc.holds("4 a NUMBER that can't be, at its first byte", () -> {
            Check.bad("letter a \n@0;", 4);
            Check.bad("letter a @0000;", 4);
            Check.bad("year  @9999;", 4);
            Check.bad("heap a @0100;", 4);
        });
        doc.holds("5 one too many of a kind of STATEMENT, at its first byte", () -> {
            String[] forms = {"person p# born 1 lifts 2 dents 3;", "title t# honour 5;", "age $ 5;",
                "bears $ when all;", "bridge b# 6;"};
            int[] most = {8, 12, 6, 8, 4};
            for (int i = 0; i < forms.length; i++) {
                String full = World.many(forms[i], most[i]);
                String first = forms[i].substring(0, forms[i].indexOf(' '));
                Check.bad(full + " \n@" + first, 5);
                Check.bad(full + "@" + first + " ;", 5);
                Check.bad(full + "year 5;@" + first + " 12345", 5);
                // One of each other kind still can come.
                for (int k = 0; k < forms.length; k++) {
                    if (k != i) {
                        Check.good(full + World.many(forms[k], 1), most[i] + 1);
                    }
                }
            }
            // Of the other kinds there is never one too many.
            Check.good("letter a 5;".repeat(40) + "heap a 5;".repeat(40) + "year 5;".repeat(40),
                    120);
        });
        doc.holds("a 9th ( [ that is open at once, at itself.", () -> {
            Check.good("bears ((((((((1)))))))) when [[[[[[[[all]]]]]]]];", 1);
            Check.good("bears 1 when [[[[((((1))))=1]]]];", 1);
            Check.good("bears min(max(min(max(min(max(min(max(1,2),2),2),2),2),2),2),2) when all;",
                    1);
            Check.good("bears max((((((((1))))))),(((((((1)))))))) when all;", 1);
            Check.bad("bears ((((((((@(1))))))))) when all;", 5);
            Check.bad("bears 1 when [[[[[[[[ @[all]]]]]]]]];", 5);
            Check.bad("bears 1 when [[[[((((@(1)))))=1]]]];", 5);
            Check.bad("bears 1 when [[[[[[[[1=@(1)]]]]]]]];", 5);
            Check.bad("bears ((((((((min@(1,2))))))))) when all;", 5);
            Check.bad("bears max(1,(((((((@(1))))))))) when all;", 5);
            Check.bad("bears max((((((((@(1)))))))),1) when all;", 5);
            Check.bad("bears ((((((((@(", 5);
            // Open at once, not in all.
            Check.good("bears " + "(1)+".repeat(9) + "1 when " + "[all] and ".repeat(9) + "all;",
                    1);
            Check.good("bears ((((((((1)))))))) when ((((((((1))))))))=((((((((1))))))));", 1);
        });
    }
}
