/** Lands and objects that several tests begin with. */
final class World {
    /** Ounces: a 5, b 7, c 20, d 10; ab 12, ba 12, abc 32, ccc 60, d 10. */
    static final String LAND = "letter a 5;letter b 7;letter c 20;"
            + "person ada born 10 lifts 60 dents 10;person ben born 20 lifts 120 dents 20;"
            + "person cy born 90 lifts 0 dents 30;person dee born 5 lifts 90 dents 40;"
            + "title ab honour 5;title ba honour 6;title abc honour 9;title ccc honour 30;"
            + "title d honour 0;heap a 3;heap b 2;heap c 4;heap d 1;bridge sill 40;year 50;";
    static final String HAD = "has ada ab;has ben abc;has ben ccc;has ben d;has dee ba;";

    private World() {
    }

    static LeadNames fresh() {
        return Check.landed(LAND + HAD);
    }

    /**
     * Something of everything: a loan (d of ben to ada), ben's letters a and c and cy's b loose, a
     * bullet of 60 ounces, 12 in the river, spans, moves, an image, a seed, a refusal of each kind
     * but the tape's; nothing on the tape.
     */
    static LeadNames busy() {
        LeadNames x = fresh();
        x.seed(4711);
        x.lend(1, 0, 4);
        x.years(1);
        x.steal(2, 1, 'b');
        x.melt(1, 3);
        x.drown(3);
        x.image();
        x.gain(9, 9);
        x.drown(9);
        x.years(0);
        x.on();
        Check.tape(x, "x");
        x.land();
        return x;
    }

    /** As busy(), with twenty bytes on the tape. */
    static LeadNames fed() {
        LeadNames x = busy();
        x.feed(0x79656172, 0x2039393b, 0, 0, 0);
        return x;
    }

    /** Persons pa, pb, .. who lift so much, without dents, born in 0. */
    static String persons(int n, int lifts) {
        return many("person p# born 0 lifts " + lifts + " dents 0;", n);
    }

    /** A form so many times, # being a, b, c .. and $ being 0, 1, 2 .. */
    static String many(String form, int n) {
        StringBuilder text = new StringBuilder();
        for (int i = 0; i < n; i++) {
            text.append(form.replace("#", "" + (char) ('a' + i)).replace("$", "" + i));
        }
        return text.toString();
    }
}
