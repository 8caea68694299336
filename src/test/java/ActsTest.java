/** Promises 9 to 25: titles, persons, lead, and each act with its edges and refusals. */
public final class ActsTest {
    // ounces: a 5, b 7, c 20; ada lifts 60, ben 100, cy 0.
    private static final String LAND = "letter a 5;letter b 7;letter c 20;"
            + "person ada born 10 lifts 60 dents 10;person ben born 20 lifts 100 dents 20;"
            + "person cy born 90 lifts 0 dents 30;"
            + "title ab honour 5;title ba honour 6;title abc honour 9;title ccc honour 30;"
            + "title d honour 0;heap a 3;heap b 2;heap c 4;heap d 1;year 50;bridge sill 40;";

    public static void main(String[] args) {
        titlesAndPersons();
        limits();
        laws();
        bestSets();
        gain();
        gainByLooseLetters();
        limitAheadOfGain();
        shed();
        steal();
        trade();
        lend();
        loansAreTwenty();
        giveBack();
        drown();
        melt();
        heir();
        years();
        yearsStop();
        feast();
        seed();
        refusals();
        Check.finish();
    }

    private static void titlesAndPersons() {
        LeadNames x = Check.landed(LAND + "has ada ab;has ben ab;has ben ba;");
        Check.same("ounces", x.title(2, 0), 32);
        Check.same("honour", x.title(2, 1), 9);
        Check.same("letters", x.title(2, 2), 3);
        Check.same("who has it", x.title(0, 3), 3);
        Check.same("who has it", x.title(2, 3), 0);
        Check.same("title what 4", x.title(0, 4), -1);
        Check.same("title what -1", x.title(0, -1), -1);
        Check.same("title 5", x.title(5, 0), -1);
        Check.same("title -1", x.title(-1, 0), -1);
        Check.same("load", x.person(1, 2), 24);
        Check.same("honour", x.person(1, 3), 11);
        Check.same("bits", x.person(1, 4), 3);
        Check.same("age, 0 at least", x.person(2, 0), 0);
        Check.same("age", x.person(0, 0), 40);
        Check.same("called", x.person(0, 8), 3);
        Check.same("called by none", x.person(2, 8), 0);
        Check.same("person what 9", x.person(0, 9), -1);
        Check.same("person what -1", x.person(0, -1), -1);
        Check.same("person 3", x.person(3, 0), -1);
        Check.same("person -1", x.person(-1, 0), -1);
        Check.same("loose of 3", x.loose(3, 97), -1);
        Check.same("loose of -2", x.loose(-2, 97), -1);
        Check.same("loose 96", x.loose(0, 96), -1);
        Check.same("heap 123", x.loose(-1, 123), -1);
        Check.same("lead in coats", x.lead(0), 36);
        Check.same("lead in the heap", x.lead(1), 15 + 14 + 80 + 10);
        Check.same("lead 4", x.lead(4), 36 + 119);
        Check.same("lead 5", x.lead(5), -1);
        Check.same("lead -1", x.lead(-1), -1);
        // The last telling of a letter counts for titles that were told ahead of it.
        LeadNames y = Check.landed("title ab honour 1;letter a 2;letter a 3;");
        Check.same("ounces by the last one", y.title(0, 0), 13);
    }

    private static int limit(String more) {
        return Check.landed("person ada born 10 lifts 77 dents 0;" + more).person(0, 1);
    }

    private static void limits() {
        Check.same("no ages", limit("year 50;"), 77);
        Check.same("ages begin later", limit("age 41 10;year 50;"), 77);
        Check.same("age begins now", limit("age 40 10;year 50;"), 7);
        Check.same("the last one that begins", limit("age 0 10;age 39 50;age 41 90;year 50;"), 38);
        Check.same("200 of 100", limit("age 0 200;"), 154);
        Check.same("0 of 100", limit("age 0 0;"), 0);
        Check.same("born later", limit("age 0 10;age 1 20;year 3;"), 7);
        Check.same("below 0", limit("bears 0-99 when all;"), 0);
        Check.same("9999", limit("bears 9922 when all;"), 9999);
        Check.same("above 9999", limit("bears 9999 when all;"), 9999);
        Check.same("no law holds", limit("bears 9 when not all;"), 77);
        Check.same("the first law", limit("bears 9 when 1>2;bears 5 when all;bears 6 when all;"),
                82);
    }

    private static void law(String sum, int due) {
        String name = "bears " + sum;
        Check.same(name, Check.landed("person x born 1 lifts 1 dents 1;person ada born 10 lifts 0 "
                + "dents 0;title a honour 7;title b honour 8;has ada a;has ada b;year 42;bears "
                + sum + " when all;").person(1, 1), due);
    }

    private static void law(String test, boolean due) {
        Check.same("when " + test, Check.landed("person ada born 10 lifts 3 dents 0;"
                + "bears 5 when " + test + ";").person(0, 1), due ? 8 : 3);
    }

    private static void laws() {
        law("person*100", 100);
        law("old", 32);
        law("force", 0);
        law("honour", 15);
        law("names", 2);
        law("2+3*4", 14);
        law("(2+3)*4", 20);
        law("20-5-3", 12);
        law("100/7/2", 7);
        law("100/7*7", 98);
        law("100%7*3", 6);
        law("7/0", 0);
        law("7%0+1", 1);
        law("1000+(0-7)/2", 996);
        law("1000+(0-7)%2", 1001);
        law("1000+7/(0-2)", 996);
        law("1000+7%(0-2)", 999);
        law("9999*9999/1000", 1000);
        law("(0-9999)*9999/1000+1500", 500);
        law("9999*100+9999-9998*100", 200);
        law("(0-9999)*100-9999+9999*100", 0);
        law("(0-9999)*100-9999+9999*100+150", 50);
        law("min(3,4)+max(3,4)*10", 43);
        law("max(0-5,0-6)+10", 5);
        law("all", true);
        law("not all", false);
        law("not not all", true);
        law("1<2", true);
        law("2<2", false);
        law("2>2", false);
        law("2=2", true);
        law("all or all and not all", true);
        law("[all or all] and not all", false);
        law("not all and all", false);
        law("not all or all", true);
        law("not [all and not all]", true);
        law("not 1=2", true);
        law("1<2 and 2<1 or 3<4", true);
        law("force=3", true);
    }

    private static void bestSets() {
        // Most honour; of like ones the fewest titles; of these the least number of bits.
        LeadNames x = Check.landed("person p born 0 lifts 20 dents 0;title a honour 3;"
                + "title b honour 3;title cd honour 6;title ef honour 6;title g honour 0;");
        Check.same("fewest, least bits", x.person(0, 6), 4);
        Check.same("its honour", x.person(0, 7), 6);
        LeadNames y = Check.landed("person p born 0 lifts 30 dents 0;title a honour 3;"
                + "title b honour 3;title cd honour 6;title ef honour 6;title g honour 0;");
        Check.same("in 30", y.person(0, 6), 5);
        Check.same("in 30", y.person(0, 7), 9);
        LeadNames z = Check.landed("person p born 0 lifts 999 dents 0;title a honour 0;");
        Check.same("no honour, no title", z.person(0, 6), 0);
        Check.same("none at all", Check.landed("person p born 0 lifts 9 dents 0;").person(0, 6), 0);
        LeadNames w = Check.landed("person p born 0 lifts 10 dents 0;title a honour 1;");
        Check.same("just as many ounces", w.person(0, 6), 1);
        LeadNames v = Check.landed("letter a 10;letter b 11;letter c 11;letter d 12;"
                + "person p born 0 lifts 22 dents 0;title a honour 5;title b honour 5;"
                + "title c honour 5;title d honour 5;");
        Check.same("the least number of bits", v.person(0, 6), 3);
        // The first and the last (9) against the two between (6): as much, as many, less bits.
        LeadNames u = Check.landed("letter a 10;letter b 11;letter c 11;letter d 12;"
                + "person p born 0 lifts 22 dents 0;title a honour 3;title b honour 4;"
                + "title c honour 6;title d honour 7;");
        Check.same("the least number of bits", u.person(0, 6), 6);
        Check.same("its honour", u.person(0, 7), 10);
    }

    private static void gain() {
        LeadNames x = Check.landed(LAND);
        Check.same("gain abc", x.gain(0, 2), 32);
        Check.same("a of the heap", x.loose(-1, 'a'), 2);
        Check.same("c of the heap", x.loose(-1, 'c'), 3);
        Check.same("has it already", x.gain(0, 2), -1);
        Check.same("too heavy", x.gain(0, 3), -1);
        Check.same("gain ab", x.gain(0, 0), 44);
        Check.same("no b is left", x.gain(0, 1), -1);
        Check.same("cy lifts nothing", x.gain(2, 4), -1);
        Check.same("gain ccc", x.gain(1, 3), 60);
        Check.same("no person", x.gain(3, 0), -1);
        Check.same("no person", x.gain(-1, 0), -1);
        Check.same("no title", x.gain(0, 5), -1);
        Check.same("no title", x.gain(0, -1), -1);
        Check.same("moves", x.has(8), 3);
        int[][] due = {{50, 0, 0, -1, 32}, {50, 0, 0, -1, 12}, {50, 0, 1, -1, 60}};
        moves(x, due);
        Check.same("refusals", x.status(2), 8);
        Check.same("all the lead", x.lead(4), 119);
    }

    private static void moves(LeadNames x, int[][] due) {
        Check.same("moves", x.has(8), due.length);
        for (int k = 0; k < due.length; k++) {
            for (int what = 0; what < 5; what++) {
                Check.same("move " + k + ", " + what, x.moved(k, what), due[k][what]);
            }
        }
    }

    private static void gainByLooseLetters() {
        LeadNames x = Check.landed(LAND + "has ada ab;");
        Check.same("steal", x.steal(1, 0, 'a'), true);
        Check.same("unpicked", x.loose(0, 'b'), 1);
        // ben has a loose: only b comes out of the heap. ada has b: only a comes.
        Check.same("gain", x.gain(1, 1), 12);
        Check.same("gain", x.gain(0, 1), 12);
        Check.same("no loose one is left", x.person(1, 5), 0);
        Check.same("heap a", x.loose(-1, 'a'), 2);
        Check.same("heap b", x.loose(-1, 'b'), 1);
        int[][] due = {{50, 2, 1, 0, 5}, {50, 0, 1, -1, 7}, {50, 0, 0, -1, 5}};
        moves(x, due);
        // All of loose letters: a move of 0 ounces; a limit of 12 is enough for what is there.
        LeadNames y = Check.landed("person p born 0 lifts 20 dents 0;person q born 0 lifts 0 "
                + "dents 0;title ab honour 1;title ba honour 1;has p ab;");
        y.steal(1, 0, 'a');
        y.trade(0, 'b', 1, 'a');
        y.steal(0, 1, 'b');
        Check.same("gain without the heap", y.gain(0, 1), 20);
        Check.same("its ounces", y.moved(3, 4), 0);
    }

    private static void limitAheadOfGain() {
        // With one name more one could bear more: that does not count ahead of the gain.
        LeadNames x = Check.landed("person p born 0 lifts 19 dents 0;title ab honour 1;"
                + "heap a 1;heap b 1;bears 1 when names>0;");
        Check.same("the limit as it was", x.gain(0, 0), -1);
        // With one name more one could bear less: that does not count either.
        LeadNames y = Check.landed("person p born 0 lifts 20 dents 0;title ab honour 1;"
                + "heap a 1;heap b 1;bears 0-20 when names>0;");
        Check.same("the limit as it was", y.gain(0, 0), 20);
        Check.same("the limit then", y.person(0, 1), 0);
        Check.same("a year", y.years(1), 1);
    }

    private static void shed() {
        LeadNames x = Check.landed(LAND + "has ada abc;has ada ab;has cy ccc;");
        Check.same("shed", x.shed(0, 2), 12);
        Check.same("heap", x.loose(-1, 'c'), 5);
        Check.same("gone", x.shed(0, 2), -1);
        Check.same("also above the limit", x.shed(2, 3), 0);
        Check.same("heap", x.loose(-1, 'c'), 8);
        Check.same("no person", x.shed(3, 0), -1);
        Check.same("no person", x.shed(-1, 0), -1);
        Check.same("no title", x.shed(0, 5), -1);
        Check.same("no title", x.shed(0, -1), -1);
        moves(x, new int[][] {{50, 1, 0, -1, 32}, {50, 1, 2, -1, 60}});
        Check.same("refusals", x.status(2), 5);
    }

    private static void steal() {
        LeadNames x = Check.landed(LAND + "has ada ba;has ada abc;");
        Check.same("none has d", x.steal(2, 0, 'd'), false);
        Check.same("steal c", x.steal(2, 0, 'c'), true);
        Check.same("unpicked abc", x.person(0, 4), 2);
        Check.same("loose a", x.loose(0, 'a'), 1);
        Check.same("loose b", x.loose(0, 'b'), 1);
        Check.same("loose c", x.loose(0, 'c'), 0);
        Check.same("whatever the limit", x.person(2, 2), 20);
        Check.same("a loose one first", x.steal(1, 0, 'a'), true);
        Check.same("ba stays", x.person(0, 4), 2);
        Check.same("then out of ba", x.steal(1, 0, 'a'), true);
        Check.same("ba is unpicked", x.person(0, 4), 0);
        Check.same("two b", x.loose(0, 'b'), 2);
        Check.same("no a more", x.steal(1, 0, 'a'), false);
        Check.same("they are one", x.steal(0, 0, 'b'), false);
        Check.same("no thief", x.steal(3, 0, 'b'), false);
        Check.same("no other", x.steal(0, -1, 'b'), false);
        Check.same("no letter", x.steal(1, 0, 96), false);
        Check.same("no letter", x.steal(1, 0, 123), false);
        moves(x, new int[][] {{50, 2, 2, 0, 20}, {50, 2, 1, 0, 5}, {50, 2, 1, 0, 5}});
        Check.same("refusals", x.status(2), 7);
        Check.same("two spans are over", x.span(1, 1), 1);
        LeadNames y = Check.landed(LAND + "has ada ab;has ada ba;");
        y.steal(1, 0, 'b');
        Check.same("the first title by numbers", y.person(0, 4), 2);
    }

    private static void trade() {
        LeadNames x = Check.landed(LAND + "has ada ab;has ben abc;");
        x.steal(2, 0, 'a');
        x.steal(2, 1, 'c');
        Check.same("trade", x.trade(2, 'c', 0, 'b'), true);
        Check.same("cy's c", x.loose(2, 'c'), 0);
        Check.same("cy's b", x.loose(2, 'b'), 1);
        Check.same("ada's c", x.loose(0, 'c'), 1);
        Check.same("ada's b", x.loose(0, 'b'), 0);
        Check.same("the letters are alike", x.trade(2, 'b', 1, 'b'), false);
        Check.same("they are one", x.trade(2, 'a', 2, 'b'), false);
        Check.same("first has it not", x.trade(2, 'd', 1, 'b'), false);
        Check.same("second has it not", x.trade(2, 'a', 1, 'c'), false);
        Check.same("no letter", x.trade(2, 96, 1, 'b'), false);
        Check.same("no letter", x.trade(2, 'a', 1, 123), false);
        Check.same("no person", x.trade(3, 'a', 1, 'b'), false);
        Check.same("no person", x.trade(2, 'a', -1, 'b'), false);
        Check.same("what the first one gave", x.moved(2, 4), 20);
        Check.same("kind", x.moved(2, 1), 3);
        Check.same("who", x.moved(2, 2), 2);
        Check.same("the other one", x.moved(2, 3), 0);
        Check.same("refusals", x.status(2), 8);
        // The heap is no person, whatever its number would be.
        for (int number = 3; number <= 9; number++) {
            Check.same("no person", x.trade(number, 'c', 2, 'b'), false);
            Check.same("no person", x.trade(2, 'b', number, 'c'), false);
            Check.same("no person", x.steal(0, number, 'c'), false);
            Check.same("no person", x.steal(number, 0, 'c'), false);
            Check.same("no person", x.loose(number, 'c'), -1);
            Check.same("no person", x.drown(number), -1);
            Check.same("no person", x.heir(number, 0), -1);
            Check.same("no person", x.common(number, 0), -1);
        }
        // A letter in a title is not loose.
        LeadNames y = Check.landed(LAND + "has ada ab;has ben abc;");
        Check.same("not loose", y.trade(0, 'a', 1, 'c'), false);
    }

    private static void lend() {
        LeadNames x = Check.landed(LAND + "has ada ab;has ben ab;has ben ccc;has ben ba;");
        Check.same("too heavy", x.lend(1, 0, 3), -1);
        Check.same("who borrows has it", x.lend(1, 0, 0), -1);
        Check.same("who lends has it not", x.lend(0, 1, 1), -1);
        Check.same("to oneself", x.lend(0, 0, 0), -1);
        Check.same("no person", x.lend(0, 3, 0), -1);
        Check.same("no person", x.lend(-1, 0, 0), -1);
        Check.same("no title", x.lend(0, 1, 5), -1);
        Check.same("lend ba", x.lend(1, 0, 1), 1);
        Check.same("ada has it", x.person(0, 4), 3);
        Check.same("ben has it not", x.person(1, 4), 9);
        Check.same("also a lent one, back", x.lend(0, 1, 1), 2);
        Check.same("loan 0 lender", x.loan(0, 0), 1);
        Check.same("loan 0 borrower", x.loan(0, 1), 0);
        Check.same("loan 0 title", x.loan(0, 2), 1);
        Check.same("it can't be given back", x.loan(0, 3), 0);
        Check.same("this can", x.loan(1, 3), 1);
        Check.same("loan what 4", x.loan(1, 4), -1);
        Check.same("loan what -1", x.loan(1, -1), -1);
        Check.same("no loan", x.loan(2, 0), -1);
        Check.same("no loan", x.loan(2, 3), -1);
        Check.same("no loan", x.loan(-1, 3), -1);
        moves(x, new int[][] {{50, 4, 1, 0, 12}, {50, 4, 0, 1, 12}});
        Check.same("refusals", x.status(3), 7);
        // The limit is the one ahead of the loan, as of gain.
        LeadNames y = Check.landed("person p born 0 lifts 19 dents 0;person q born 0 lifts 0 dents "
                + "0;title ab honour 1;has q ab;bears 1 when names>0;");
        Check.same("the limit ahead", y.lend(1, 0, 0), -1);
        LeadNames z = Check.landed("person p born 0 lifts 20 dents 0;person q born 0 lifts 0 dents "
                + "0;title ab honour 1;has q ab;");
        Check.same("just the limit", z.lend(1, 0, 0), 1);
    }

    private static void loansAreTwenty() {
        LeadNames x = Check.landed("person p born 0 lifts 99 dents 0;person q born 0 lifts 99 dents "
                + "0;title ab honour 1;has p ab;");
        for (int i = 0; i < 20; i++) {
            Check.same("loan " + i, x.lend(i % 2, 1 - i % 2, 0), i + 1);
        }
        Check.same("one too many", x.lend(0, 1, 0), -1);
        Check.same("the 19th can't be given back", x.giveBack(18), false);
        Check.same("the 18th can", x.giveBack(17), true);
        Check.same("nineteen", x.has(6), 19);
        Check.same("the last moved up", x.loan(18, 0), 1);
        Check.same("again", x.lend(1, 0, 0), 20);
        Check.same("refusals", x.status(3), 2);
    }

    private static void giveBack() {
        LeadNames x = Check.landed(LAND + "has ben abc;has ben ab;has ben d;");
        x.lend(1, 0, 0);
        x.lend(1, 0, 2);
        x.years(5);
        Check.same("no loan", x.giveBack(2), false);
        Check.same("no loan", x.giveBack(-1), false);
        Check.same("give back", x.giveBack(0), true);
        Check.same("one loan", x.has(6), 1);
        Check.same("the other loan", x.loan(0, 2), 2);
        Check.same("ben has it", x.person(1, 4), 17);
        Check.same("move's year", x.moved(2, 0), 55);
        Check.same("kind", x.moved(2, 1), 5);
        Check.same("who borrowed", x.moved(2, 2), 0);
        Check.same("who lent", x.moved(2, 3), 1);
        Check.same("ounces", x.moved(2, 4), 12);
        x.shed(0, 2);
        Check.same("who borrowed has it not", x.giveBack(0), false);
        Check.same("it stays", x.loan(0, 3), 0);
        x.gain(0, 2);
        Check.same("he has it again", x.loan(0, 3), 1);
        x.gain(1, 2);
        Check.same("who lent has it too", x.loan(0, 3), 0);
        Check.same("who lent has it too", x.giveBack(0), false);
        Check.same("refusals", x.status(3), 4);
        // Back without a look at the limit.
        LeadNames y = Check.landed("person p born 0 lifts 0 dents 0;person q born 0 lifts 99 dents "
                + "0;title ab honour 1;has p ab;");
        y.lend(0, 1, 0);
        Check.same("above the limit", y.giveBack(0), true);
        Check.same("above the limit", y.person(0, 2), 20);
    }

    private static void drown() {
        LeadNames x = Check.landed(LAND + "has ada ab;has ada abc;has ben ba;");
        x.steal(0, 1, 'b');
        Check.same("drown", x.drown(0), 12 + 32 + 7);
        Check.same("river", x.lead(2), 51);
        Check.same("titles", x.person(0, 4), 0);
        Check.same("loose", x.person(0, 5), 0);
        Check.same("again", x.drown(0), 0);
        Check.same("also of 0 ounces a move", x.has(8), 3);
        Check.same("kind", x.moved(2, 1), 6);
        Check.same("the other one", x.moved(1, 3), -1);
        Check.same("ounces", x.moved(1, 4), 51);
        Check.same("spans", x.span(1, 1), 0);
        Check.same("spans", x.span(2, 1), 2);
        Check.same("no person", x.drown(3), -1);
        Check.same("no person", x.drown(-1), -1);
        Check.same("refusals", x.status(3), 2);
        Check.same("all the lead", x.lead(4), 119 + 12 + 32 + 12);
    }

    private static void melt() {
        LeadNames x = Check.landed(LAND + "has ada ab;has ada abc;");
        Check.same("melt", x.melt(0, 2), 1);
        Check.same("has it not", x.melt(0, 2), -1);
        Check.same("no person", x.melt(3, 0), -1);
        Check.same("no title", x.melt(0, -1), -1);
        Check.same("bullets", x.lead(3), 32);
        Check.same("titles", x.person(0, 4), 1);
        moves(x, new int[][] {{50, 7, 0, -1, 32}});
        Check.same("melt", x.melt(0, 0), 2);
        Check.same("bullets", x.has(7), 2);
        Check.same("refusals", x.status(3), 3);
        LeadNames y = Check.landed("person p born 0 lifts 99 dents 0;title a honour 1;heap a 99;");
        for (int i = 1; i <= 30; i++) {
            y.gain(0, 0);
            Check.same("melt", y.melt(0, 0), i);
        }
        y.gain(0, 0);
        Check.same("a 31st bullet", y.melt(0, 0), -1);
        Check.same("it stays", y.person(0, 4), 1);
    }

    private static void heir() {
        // ada lifts 60 and has 12: of abc (32, 9), ccc (60, 30), d (10, 0) abc is the best in 48.
        LeadNames x = Check.landed(LAND + "has ada ab;has ben ab;has ben abc;has ben ccc;has ben d;");
        Check.same("heir", x.heir(1, 0), 4);
        Check.same("ada", x.person(0, 4), 5);
        Check.same("ben", x.person(1, 2), 0);
        Check.same("heap c", x.loose(-1, 'c'), 7);
        Check.same("heap a", x.loose(-1, 'a'), 4);
        Check.same("heap d", x.loose(-1, 'd'), 2);
        moves(x, new int[][] {{50, 8, 1, 0, 32}});
        Check.same("four spans", x.span(3, 1), 4);
        Check.same("to oneself", x.heir(0, 0), -1);
        Check.same("no person", x.heir(3, 0), -1);
        Check.same("no person", x.heir(0, -1), -1);
        Check.same("of nothing", x.heir(1, 0), 0);
        Check.same("a move", x.has(8), 2);
        Check.same("refusals", x.status(3), 3);
        // At the limit nothing comes, however light.
        LeadNames w = Check.landed("letter a 1;person p born 0 lifts 0 dents 0;person q born 0 lifts "
                + "0 dents 0;title a honour 1;has p a;");
        Check.same("not one ounce", w.heir(0, 1), 0);
        // Above the limit nothing comes; loose letters go to the heap.
        LeadNames y = Check.landed(LAND + "has cy ab;has ada abc;");
        y.steal(0, 2, 'a');
        Check.same("cy can't", y.heir(0, 2), 0);
        Check.same("heap a", y.loose(-1, 'a'), 5);
        Check.same("ada's lead", y.person(0, 2), 0);
        Check.same("the other one got none", y.moved(1, 4), 0);
    }

    private static void years() {
        LeadNames x = Check.landed("person p born 0 lifts 100 dents 0;person q born 0 lifts 5 dents "
                + "0;title ab honour 3;title cd honour 3;title e honour 2;title fgh honour 5;"
                + "has p ab;has p cd;has p e;has p fgh;age 0 100;age 30 30;age 32 0;year 28;");
        Check.same("years(0)", x.years(0), -1);
        Check.same("years(61)", x.years(61), -1);
        Check.same("years(-1)", x.years(-1), -1);
        Check.same("refusals", x.status(4), 3);
        Check.same("one year", x.years(1), 0);
        // In 30: fgh (5) against ab and e (5): the fewest titles.
        Check.same("the next", x.years(1), 3);
        Check.same("kept", x.person(0, 4), 8);
        moves(x, new int[][] {{30, 1, 0, -1, 20}, {30, 1, 0, -1, 20}, {30, 1, 0, -1, 10}});
        Check.same("heap", x.lead(1), 50);
        Check.same("two years", x.years(2), 1);
        Check.same("year", x.has(5), 32);
        // Loose letters go first, and are no move; titles stay if that is enough.
        LeadNames y = Check.landed("person p born 0 lifts 20 dents 0;person q born 0 lifts 20 dents "
                + "0;title ab honour 3;title cd honour 1;has p ab;has q cd;");
        y.steal(0, 1, 'c');
        Check.same("loose ones go", y.years(1), 0);
        Check.same("titles stay", y.person(0, 4), 1);
        Check.same("loose ones went", y.person(0, 5), 0);
        Check.same("not those of q", y.person(1, 5), 1);
        Check.same("one move", y.has(8), 1);
        Check.same("heap", y.loose(-1, 'c'), 1);
        // Just at the limit without the loose ones: all titles stay, also one without honour.
        LeadNames w = Check.landed("person p born 0 lifts 20 dents 0;person q born 0 lifts 20 dents "
                + "0;title ab honour 0;title cd honour 1;has p ab;has q cd;");
        w.steal(0, 1, 'c');
        Check.same("all titles stay", w.years(1), 0);
        Check.same("all titles stay", w.person(0, 4), 1);
        // Loans stay.
        LeadNames z = Check.landed("person p born 0 lifts 20 dents 0;person q born 0 lifts 20 dents "
                + "0;title ab honour 3;has p ab;age 0 100;age 1 0;");
        z.lend(0, 1, 0);
        Check.same("shed", z.years(1), 1);
        Check.same("loans stay", z.has(6), 1);
        Check.same("can't be given back", z.loan(0, 3), 0);
    }

    private static void yearsStop() {
        LeadNames x = Check.landed("person p born 0 lifts 20 dents 0;title ab honour 3;has p ab;"
                + "year 99;");
        for (int i = 0; i < 15; i++) {
            x.years(60);
        }
        Check.same("year", x.has(5), 999);
        Check.same("age", x.person(0, 0), 999);
        Check.same("signed now", x.signed(0, 999), 1);
        Check.same("still a year", x.years(1), 0);
        Check.same("year", x.has(5), 999);
    }

    private static void feast() {
        // The seed 1 becomes 1103527590; / 64 = 17242618; of 3 is 1: the first of two titles.
        String text = "person p born 0 lifts 50 dents 0;title a honour 1;title b honour 1;"
                + "heap a 9;heap b 9;";
        LeadNames x = Check.landed(text);
        Check.same("feast", x.feast(), 1);
        Check.same("the first by 1", x.person(0, 4), 1);
        Check.same("a move", x.moved(0, 1), 0);
        Check.same("its ounces", x.moved(0, 4), 10);
        // A draw of one is a draw too: the second person has the second number.
        LeadNames y = Check.landed("person o born 0 lifts 0 dents 0;" + text);
        long seed = 1;
        int due = 0;
        for (int i = 0; i < 2; i++) {
            seed = (1103515245L * seed + 12345) % (1L << 31);
            due = (int) (seed / 64 % 3);
        }
        Check.same("feast", y.feast(), due == 0 ? 0 : 1);
        Check.same("its title", y.person(1, 4), due);
        Check.same("none could", Check.landed("person o born 0 lifts 0 dents 0;").feast(), 0);
    }

    private static void seed() {
        LeadNames x = Check.landed("person p born 0 lifts 50 dents 0;title a honour 1;heap a 9;");
        Check.same("seed -1", x.seed(-1), false);
        Check.same("seed least", x.seed(Integer.MIN_VALUE), false);
        Check.same("seed 0", x.seed(0), true);
        Check.same("refusals", x.status(4), 2);
        // From 0: 12345; / 64 = 192; of 2 is 0.
        Check.same("none by 0", x.feast(), 0);
        Check.same("seed most", x.seed(Integer.MAX_VALUE), true);
        long next = (1103515245L * Integer.MAX_VALUE + 12345) % (1L << 31);
        Check.same("by the most", x.feast(), next / 64 % 2);
    }

    private static void refusals() {
        LeadNames x = Check.landed(LAND + "has ada ab;");
        for (int what = 0; what < 6; what++) {
            Check.same("status " + what, x.status(what), 0);
        }
        Check.same("status 6", x.status(6), -1);
        Check.same("status -1", x.status(-1), -1);
        x.gain(9, 9);
        x.shed(9, 9);
        x.steal(9, 9, 9);
        x.trade(9, 9, 9, 9);
        x.lend(9, 9, 9);
        x.giveBack(9);
        x.drown(9);
        x.melt(9, 9);
        x.heir(9, 9);
        x.years(99);
        x.seed(-9);
        x.on();
        x.end(-1);
        x.land();
        int[] due = {1, 0, 4, 5, 2, 1};
        for (int what = 0; what < 6; what++) {
            Check.same("status " + what, x.status(what), due[what]);
        }
        // Questions are never counted.
        x.person(9, 9);
        x.loan(9, 9);
        x.octet(9);
        x.goings(9, 9);
        x.signed(9, -1);
        for (int what = 0; what < 6; what++) {
            Check.same("status " + what, x.status(what), due[what]);
        }
    }
}
