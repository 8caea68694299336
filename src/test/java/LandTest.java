/** Promises 1 to 8: a new object, the tape, the land and its faults, what it told. */
public final class LandTest {
    private static final String ONE = "person ada born 5 lifts 90 dents 10;title tea honour 9;";

    public static void main(String[] args) {
        newObject();
        tape();
        goodLands();
        statements();
        firstFaults();
        wordFaults();
        nameFaults();
        numberFaults();
        countFaults();
        bracketFaults();
        faultLeavesAll();
        landForgets();
        landIsWhole();
        names();
        Check.finish();
    }

    private static void newObject() {
        LeadNames x = new LeadNames();
        for (int what = 0; what <= 8; what++) {
            Check.same("new has " + what, x.has(what), 0);
        }
        Check.same("new has 9", x.has(9), -1);
        Check.same("new has -1", x.has(-1), -1);
        Check.same("new fault 0", x.fault(0), 0);
        Check.same("new fault 1", x.fault(1), -1);
        Check.same("new fault 2", x.fault(2), -1);
        Check.same("new person", x.person(0, 0), -1);
        Check.same("new title", x.title(0, 0), -1);
        Check.same("new ounces", x.ounces(97), 10);
        Check.same("new heap", x.loose(-1, 122), 0);
        for (int what = 0; what <= 4; what++) {
            Check.same("new lead", x.lead(what), 0);
        }
        Check.same("new octet", x.octet(0), -1);
        Check.same("new years", x.years(3), 0);
        Check.same("new year", x.has(5), 3);
        Check.same("new feast", x.feast(), 0);
        Check.same("new image", x.image(), 2 + 52 + 3 + 1 + 1);
        Check.same("new goings", x.goings(0, 0), -1);
    }

    private static void tape() {
        LeadNames x = new LeadNames();
        Check.same("end(0) of none", x.end(0), true);
        Check.same("end(1) of none", x.end(1), false);
        for (int i = 1; i <= 80; i++) {
            Check.same("feed", x.feed(i, i, i, i, i), 20 * i);
        }
        Check.same("feed above", x.feed(1, 2, 3, 4, 5), -1);
        Check.same("end(-1)", x.end(-1), false);
        Check.same("end(1601)", x.end(1601), false);
        Check.same("end(1600)", x.end(1600), true);
        Check.same("end(1581)", x.end(1581), true);
        Check.same("feed above by one", x.feed(1, 2, 3, 4, 5), -1);
        Check.same("end(1580)", x.end(1580), true);
        Check.same("feed to the brim", x.feed(1, 2, 3, 4, 5), 1600);
        Check.same("refusals", x.status(0), 5);
        Check.same("land of odd bytes", x.land(), -1);
        Check.same("its place", x.fault(1), 0);
        Check.same("the tape went", x.end(1), false);
        // Of each number the highest byte first, also of one below 0.
        x.feed(0x79656172, 0x2039393b, 0xffffffff, 0, 0);
        Check.same("end", x.end(9), true);
        Check.same("byte 255", x.land(), -1);
        Check.same("its place", x.fault(1), 8);
        x.feed(0x79656172, 0x2039393b, 0xffffffff, 0, 0);
        x.end(8);
        Check.same("year 99;", x.land(), 1);
        Check.same("year", x.has(5), 99);
    }

    private static void goodLands() {
        Check.good("", 0);
        Check.good(" \n ", 0);
        Check.good("year 0;", 1);
        Check.good("\nyear\n7\n;\n", 1);
        Check.good("year 0001;", 1);
        Check.good("letter a 1;letter a 99;letter z 5;", 3);
        Check.good("heap a 0;heap a 99;", 2);
        Check.good("person a born 0 lifts 0 dents 0;title b honour 0;bridge c 0;has a b;", 4);
        Check.good("person abcdef born 99 lifts 999 dents 100;title zyxwvu honour 999;"
                + "bridge q 9999;", 3);
        Check.good("age 0 0;age 1 200;age 2 5;age 50 7;age 98 1;age 99 2;", 6);
        Check.good("bears 0 when all;bears 9999 when not all;bears 1 when(2)>3;", 3);
        Check.good("bears person+old-force*honour/names%min(1,2)-max(3,(4))when[all]and not[all "
                + "or 1<2];", 1);
        Check.good("bears ((((((((1)))))))) when [[[[[[[[all]]]]]]]];", 1);
        Check.good("bears 1 when [[[[((((1))))=1]]]] or (1)>(2);", 1);
        Check.good("bears min(max(min(max(min(max(min(max(1,2),2),2),2),2),2),2),2) when all;", 1);
        Check.good("letter a 5;person a born 1 lifts 1 dents 1;", 2);
        Check.good("bears 1 when " + "not ".repeat(380) + "all;", 1);
    }

    private static void statements() {
        LeadNames x = Check.landed("letter a 3;letter a 7;heap a 4;heap a 2;heap b 1;year 5;year 8;"
                + "age 3 50;" + ONE + "bears 1 when all;bridge sill 60;has ada tea;");
        Check.same("letter, the last one", x.ounces(97), 7);
        Check.same("letter without", x.ounces(98), 10);
        Check.same("ounces 96", x.ounces(96), -1);
        Check.same("ounces 123", x.ounces(123), -1);
        Check.same("ounces least", x.ounces(Integer.MIN_VALUE), -1);
        Check.same("heap, the last one", x.loose(-1, 97), 2);
        Check.same("heap without", x.loose(-1, 99), 0);
        int[] due = {1, 1, 1, 1, 1, 8, 0, 0, 0};
        for (int what = 0; what < due.length; what++) {
            Check.same("has " + what, x.has(what), due[what]);
        }
    }

    private static void firstFaults() {
        Check.bad("year 5@", 1);
        Check.bad("year @;", 1);
        Check.bad("year 5  \n@", 1);
        Check.bad("@;", 1);
        Check.bad("@5;", 1);
        Check.bad("@nonsense".replace("nonsense", "nons"), 1);
        Check.bad("year 5;@;", 1);
        Check.bad("@Year 5;", 1);
        Check.bad("@\tyear 5;", 1);
        Check.bad("year@\t5;", 1);
        Check.bad("year @-5;", 1);
        Check.bad("year 5@,", 1);
        Check.bad("year 5 @6;", 1);
        Check.bad("@when 5;", 1);
        Check.bad("bears 5 @;", 1);
        Check.bad("bears @when all;", 1);
        Check.bad("bears 5 when @;", 1);
        Check.bad("bears 5 when 5@;", 1);
        Check.bad("bears 5 when 5>@;", 1);
        Check.bad("bears 5 when 5>5@>5;", 1);
        Check.bad("bears 5 when 5>5 and@;", 1);
        Check.bad("bears 5 when all@+5;", 1);
        Check.bad("bears 5 when [all]@>5;", 1);
        Check.bad("bears 5 when [all@;", 1);
        Check.bad("bears 5 when (5@];", 1);
        Check.bad("bears 5 when (@all);", 1);
        Check.bad("bears 5 when (5)@;", 1);
        Check.bad("bears 5 when @-5>1;", 1);
        Check.bad("bears 5+@+5 when all;", 1);
        Check.bad("bears min@5 when all;".replace("min", "min "), 1);
        Check.bad("bears min(5@) when all;", 1);
        Check.bad("bears min(5,5@,5) when all;", 1);
        Check.bad("bears @ada when all;", 1);
        Check.bad("bears 1 when not@", 1);
        Check.bad("bears @not when all;", 1);
        Check.bad("bears @[1] when all;", 1);
        Check.bad("bears 1 when 1<2 @old;", 1);
        Check.bad("title tea honour 5@title", 1);
    }

    private static void wordFaults() {
        Check.bad("abcdef@g", 1);
        Check.bad("letter@x a 5;", 1);
        Check.bad("title abcdef@gh honour 5;", 1);
        Check.bad("year 1234@5;", 1);
        Check.bad("1234@5", 1);
        Check.bad("letter abcdef@g 5;", 1);
        Check.bad("letter 1234@5 5;", 1);
        Check.bad("year abcdef@g;", 1);
        Check.bad("year@5;", 1);
        Check.bad("year@12345;", 1);
        Check.bad("bears 5@when all;", 1);
        Check.bad("bears 1@abcdefg when all;", 1);
        Check.bad("letter a@5;", 1);
        Check.bad("age 5@x 5;", 1);
        Check.bad(ONE + "has ada@9;", 1);
        Check.bad("letter @ab 5;", 1);
        Check.bad("letter @min 5;", 1);
        Check.bad("heap @ab 5;", 1);
        Check.bad("heap @5 5;", 1);
        Check.bad("title @old honour 5;", 1);
        Check.bad("title @letter honour 5;", 1);
        Check.bad("person @max born 5 lifts 5 dents 5;", 1);
        Check.bad("bridge @all 5;", 1);
        Check.bad("person ada @lifts 5;", 1);
        Check.bad("person ada born 5 @dents 5;", 1);
        Check.bad(ONE + "has @person tea;", 1);
        Check.bad(ONE + "has ada @honour;", 1);
        for (String own : ("letter person born lifts dents title honour has heap age bears bridge "
                + "year when or and not all old force names min max").split(" ")) {
            Check.bad("title @" + own + " honour 5;", 1);
        }
    }

    private static void nameFaults() {
        Check.bad(ONE + "person @ada born 5 lifts 5 dents 5;", 2);
        Check.bad(ONE + "person @tea born 5 lifts 5 dents 5;", 2);
        Check.bad(ONE + "title @ada honour 5;", 2);
        Check.bad(ONE + "bridge @tea 5;", 2);
        Check.bad(ONE + "bridge sill 5;title @sill honour 5;", 2);
        Check.bad(ONE + "title @tea999;", 2);
        Check.bad(ONE + "has @ben tea;", 3);
        Check.bad(ONE + "has @tea tea;", 3);
        Check.bad(ONE + "has ada @ada;", 3);
        Check.bad(ONE + "has ada @ten;", 3);
        Check.bad(ONE + "has @ben9;", 3);
        Check.bad(ONE + "has ada tea;has ada @tea;", 3);
        Check.bad("has @ada tea;" + ONE, 3);
        Check.bad(ONE + "bridge sill 5;has ada @sill;", 3);
    }

    private static void numberFaults() {
        Check.bad("letter a @0;", 4);
        Check.bad("letter a @100;", 4);
        Check.bad("heap a @100;", 4);
        Check.bad("year @100;", 4);
        Check.bad("person a born @100 lifts 1 dents 1;", 4);
        Check.bad("person a born 1 lifts @1000 dents 1;", 4);
        Check.bad("person a born 1 lifts 1 dents @101;", 4);
        Check.bad("title a honour @1000;", 4);
        Check.bad("title a honour @1000x", 4);
        Check.bad("age @100 5;", 4);
        Check.bad("age 5 @201;", 4);
        Check.bad("age 5 5;age @5 5;", 4);
        Check.bad("age 5 5;age @4 5;", 4);
        Check.bad("age 99 5;age @99 5;", 4);
        Check.bad("letter a 1000@0;", 1);
    }

    private static String many(String form, int n) {
        StringBuilder text = new StringBuilder();
        for (int i = 0; i < n; i++) {
            text.append(form.replace("#", "" + (char) ('a' + i)).replace("$", "" + i));
        }
        return text.toString();
    }

    private static void countFaults() {
        String[] forms = {"person p# born 1 lifts 2 dents 3;", "title t# honour 5;", "age $ 5;",
            "bears $ when all;", "bridge b# 6;"};
        int[] most = {8, 12, 6, 8, 4};
        for (int i = 0; i < forms.length; i++) {
            Check.good(many(forms[i], most[i]), most[i]);
            Check.bad(many(forms[i], most[i]) + "@" + many(forms[i], 1), 5);
        }
        Check.bad(many(forms[0], 8) + "@person 5;", 5);
        Check.bad(many(forms[0], 8) + "@person", 5);
        Check.bad(many(forms[2], 6) + "year 5;\n @age 0 0;", 5);
        Check.good(many("letter a $;letter b 1;", 10).substring(11), 19);
    }

    private static void bracketFaults() {
        Check.bad("bears ((((((((@(1))))))))) when all;", 5);
        Check.bad("bears 1 when [[[[[[[[@[all]]]]]]]]];", 5);
        Check.bad("bears 1 when [[[[((((@(1)))))=1]]]];", 5);
        Check.bad("bears 1 when [[[[[[[[@(1)=1]]]]]]]];", 5);
        Check.bad("bears min(max(min(max(min(max(min(max@((1),2),2),2),2),2),2),2),2) when all;"
                .replace("max@((1)", "max(@(1)"), 5);
        Check.bad("bears ((((((((min@(1,2))))))))) when all;", 5);
        Check.good("bears max(1,(((((((2)))))))) when all;", 1);
        Check.bad("bears max(1,(((((((@(2))))))))) when all;", 5);
        Check.good("bears max((((((((2))))))),1) when all;", 1);
        Check.bad("bears max((((((((@(2)))))))),1) when all;", 5);
        Check.bad("bears ((((((((@[1", 1);
        Check.good("bears " + "(1)+".repeat(20) + "1 when [all]" + " and [all]".repeat(9) + ";", 1);
    }

    private static void faultLeavesAll() {
        LeadNames x = Check.landed(ONE + "heap a 9;heap t 9;heap e 9;year 30;letter a 3;");
        x.gain(0, 0);
        Check.tape(x, "letter a 9;person ben born 1 lifts 1 dents 1;year 50;x");
        Check.same("land with a fault", x.land(), -1);
        Check.same("fault", x.fault(0), 1);
        Check.same("place", x.fault(1), 53);
        Check.same("persons stay", x.has(0), 1);
        Check.same("year stays", x.has(5), 30);
        Check.same("ounces stay", x.ounces(97), 3);
        Check.same("titles stay", x.person(0, 4), 1);
        Check.same("moves stay", x.has(8), 1);
        Check.same("name stays", x.letter(0, 0, 1), 'd');
        Check.same("the tape went", x.end(1), false);
        Check.same("refusals", x.status(1), 1);
        Check.same("land of nothing", x.land(), 0);
        Check.same("fault", x.fault(0), 0);
        Check.same("place", x.fault(1), -1);
        Check.same("no persons", x.has(0), 0);
        Check.same("ounces again", x.ounces(97), 10);
        Check.same("refusals stay", x.status(1), 1);
    }

    private static void landForgets() {
        String text = ONE + "person ben born 5 lifts 90 dents 10;title at honour 2;has ada tea;"
                + "has ada at;heap t 9;year 50;";
        LeadNames x = Check.landed(text);
        x.seed(7);
        x.years(5);
        x.lend(0, 1, 0);
        x.melt(0, 1);
        x.drown(1);
        Check.same("loans", x.has(6), 1);
        Check.same("bullets", x.has(7), 1);
        Check.same("moves", x.has(8), 3);
        Check.same("river", x.lead(2), 30);
        Check.tape(x, text);
        x.land();
        for (int what = 6; what <= 8; what++) {
            Check.same("gone " + what, x.has(what), 0);
        }
        Check.same("river", x.lead(2), 0);
        Check.same("bullets' lead", x.lead(3), 0);
        Check.same("no span", x.span(0, 0), -1);
        Check.same("borne from now on", x.signed(0, 50), 1);
        Check.same("not ahead", x.signed(0, 49), 0);
        LeadNames y = Check.landed(text);
        y.seed(7);
        Check.same("the seed stays", x.feast(), y.feast());
        Check.same("the seed stays", x.person(0, 4), y.person(0, 4));
        Check.same("the seed stays", x.person(1, 4), y.person(1, 4));
    }

    private static void landIsWhole() {
        String bare = "person p born 0 lifts 0 dents 0;person q born 0 lifts 0 dents 0;"
                + "title ab honour 1;title c honour 1;";
        LeadNames x = Check.landed(bare + "has p ab;has q c;heap a 9;letter a 3;year 5;age 0 7;"
                + "bears 5 when all;bridge b 1;");
        // Whatever is kept from land to land inside, none of it is seen.
        for (int i = 0; i < 4; i++) {
            x.steal(1, 0, 'a');
            Check.tape(x, bare);
            Check.same("land", x.land(), 4);
            Check.same("no ab", x.person(0, 4), 0);
            Check.same("no c", x.person(1, 4), 0);
            Check.same("no loose letters", x.person(0, 5) + x.person(1, 5), 0);
            Check.same("no heap", x.lead(1), 0);
            Check.same("no lead", x.lead(4), 0);
            Check.same("ounces", x.ounces('a'), 10);
            Check.same("title's ounces", x.title(0, 0), 20);
            Check.same("year", x.has(5), 0);
            Check.same("ages", x.has(2), 0);
            Check.same("laws", x.has(3), 0);
            Check.same("bridges", x.has(4), 0);
            Check.same("limit", x.person(0, 1), 0);
        }
    }

    private static void names() {
        LeadNames x = Check.landed(ONE + "bridge sill 5;title senate honour 1;");
        Check.same("letter", x.letter(0, 0, 0), 'a');
        Check.same("letter", x.letter(0, 0, 2), 'a');
        Check.same("behind", x.letter(0, 0, 3), -1);
        Check.same("below", x.letter(0, 0, -1), -1);
        Check.same("title", x.letter(1, 0, 0), 't');
        Check.same("title's last", x.letter(1, 1, 5), 'e');
        Check.same("behind six", x.letter(1, 1, 6), -1);
        Check.same("far behind", x.letter(1, 1, 32), -1);
        Check.same("bridge", x.letter(2, 0, 3), 'l');
        Check.same("no such", x.letter(2, 1, 0), -1);
        Check.same("no such", x.letter(0, -1, 0), -1);
        Check.same("no kind", x.letter(3, 0, 0), -1);
        Check.same("no kind", x.letter(-1, 0, 0), -1);
    }
}
