/** Promises 26 to 33: who bore what, moves, shares, bullets, rows, goings, what is in common. */
public final class WhatWasTest {
    private static final String TWO = "person p born 0 lifts 99 dents 0;"
            + "person q born 0 lifts 99 dents 0;";

    public static void main(String[] args) {
        signed();
        spans();
        spansAreEighty();
        movesAreSixty();
        shares();
        bullets();
        manyBullets();
        rows();
        goings();
        common();
        Check.finish();
    }

    private static void signed() {
        LeadNames x = Check.landed(TWO + "title ab honour 1;title c honour 1;has p ab;year 20;");
        Check.same("from the year on", x.signed(0, 20), 1);
        Check.same("not ahead", x.signed(0, 19), 0);
        Check.same("not what will be", x.signed(0, 21), 0);
        x.years(5);
        x.lend(0, 1, 0);
        Check.same("in the year of the loan both", x.signed(0, 25), 3);
        x.years(5);
        Check.same("then the one", x.signed(0, 24), 1);
        Check.same("then the other", x.signed(0, 26), 2);
        Check.same("till now", x.signed(0, 30), 2);
        x.giveBack(0);
        Check.same("both again", x.signed(0, 30), 3);
        Check.same("none bore c", x.signed(1, 25), 0);
        Check.same("year 999", x.signed(0, 999), 0);
        Check.same("year 0", x.signed(0, 0), 0);
        Check.same("year 1000", x.signed(0, 1000), -1);
        Check.same("year -1", x.signed(0, -1), -1);
        Check.same("no title", x.signed(2, 5), -1);
        Check.same("no title", x.signed(-1, 5), -1);
    }

    private static void spans() {
        LeadNames x = Check.landed(TWO + "title ab honour 1;has p ab;year 20;");
        Check.same("none is over", x.span(0, 0), -1);
        x.years(3);
        x.lend(0, 1, 0);
        x.shed(1, 0);
        int[][] due = {{0, 0, 20, 23}, {1, 0, 23, 23}};
        for (int k = 0; k < due.length; k++) {
            for (int what = 0; what < 4; what++) {
                Check.same("span " + k + ", " + what, x.span(k, what), due[k][what]);
            }
        }
        Check.same("what 4", x.span(0, 4), -1);
        Check.same("what -1", x.span(0, -1), -1);
        Check.same("no third", x.span(2, 0), -1);
        Check.same("k -1", x.span(-1, 0), -1);
    }

    private static void spansAreEighty() {
        LeadNames x = Check.landed(TWO + "title a honour 1;heap a 1;");
        for (int i = 0; i < 81; i++) {
            x.gain(i == 0 ? 1 : 0, 0);
            x.shed(i == 0 ? 1 : 0, 0);
            x.years(1);
        }
        Check.same("the oldest is kept", x.span(0, 2), 1);
        Check.same("the last", x.span(79, 2), 80);
        Check.same("no more", x.span(80, 0), -1);
        Check.same("the oldest went", x.signed(0, 0), 0);
        Check.same("the next did not", x.signed(0, 1), 1);
    }

    private static void movesAreSixty() {
        LeadNames x = Check.landed(TWO + "title a honour 1;heap a 1;");
        for (int i = 0; i < 31; i++) {
            x.gain(0, 0);
            x.shed(0, 0);
            x.years(1);
        }
        Check.same("sixty", x.has(8), 60);
        Check.same("the oldest", x.moved(0, 0), 1);
        Check.same("its kind", x.moved(0, 1), 0);
        Check.same("the newest", x.moved(59, 0), 30);
        Check.same("its kind", x.moved(59, 1), 1);
        Check.same("no more", x.moved(60, 0), -1);
        Check.same("what 5", x.moved(0, 5), -1);
        Check.same("what -1", x.moved(0, -1), -1);
        Check.same("k -1", x.moved(-1, 0), -1);
        Check.same("no other one", x.moved(0, 3), -1);
    }

    private static void shares() {
        LeadNames x = Check.landed("person p born 0 lifts 0 dents 50;"
                + "person q born 0 lifts 0 dents 100;person r born 0 lifts 0 dents 0;");
        Check.same("no letters: all alike", x.share(0, 0, 0), 333);
        Check.same("one dented", x.share(0, 1, 1), 333);
        Check.same("one dented", x.share(1, 1, 1), 666);
        Check.same("one dented", x.share(2, 1, 1), 0);
        Check.same("one of two", x.share(0, 2, 1), 1000);
        // Down to nothing by floors: 50 of 100 thirty times and more.
        Check.same("30 times", x.share(0, 31, 15), 0);
        Check.same("all is 0", x.share(1, 40, 20), 0);
        Check.same("29 times", x.share(0, 29, 15), 1000);
        Check.same("n 41", x.share(0, 41, 0), -1);
        Check.same("n -1", x.share(0, -1, 0), -1);
        Check.same("k above n", x.share(0, 3, 4), -1);
        Check.same("k -1", x.share(0, 3, -1), -1);
        Check.same("no person", x.share(3, 3, 1), -1);
        Check.same("no person", x.share(-1, 3, 1), -1);
        // Floors each time, the dented ones first: 33 of 100 ten times, then 67.
        LeadNames y = Check.landed("person p born 0 lifts 0 dents 33;person q born 0 lifts 0 dents 7;");
        long one = 1000000000L;
        long other = 1000000000L;
        for (int i = 0; i < 9; i++) {
            one = one * (i < 7 ? 33 : 67) / 100;
            other = other * (i < 7 ? 7 : 93) / 100;
        }
        Check.same("share", y.share(1, 9, 7), 1000 * other / (one + other));
    }

    private static void bullets() {
        LeadNames x = Check.landed("letter a 3;letter b 5;letter c 8;person p born 0 lifts 99 dents "
                + "0;title a honour 1;title b honour 1;title c honour 1;has p a;has p b;has p c;");
        Check.same("the set of none", x.bullets(0, 0), 1);
        Check.same("the set of none", x.bullets(0, 1), 0);
        Check.same("none", x.bullets(3, 0), 0);
        Check.same("none", x.bullets(3, 1), -1);
        x.melt(0, 0);
        x.melt(0, 1);
        x.melt(0, 2);
        Check.same("3 and 5, or 8", x.bullets(8, 0), 2);
        Check.same("the first set", x.bullets(8, 1), 3);
        Check.same("all", x.bullets(16, 1), 7);
        Check.same("no set", x.bullets(17, 0), 0);
        Check.same("no set", x.bullets(1, 1), -1);
        Check.same("99999", x.bullets(99999, 0), 0);
        Check.same("100000", x.bullets(100000, 0), -1);
        Check.same("-1", x.bullets(-1, 0), -1);
        Check.same("what 2", x.bullets(8, 2), -1);
        Check.same("what -1", x.bullets(8, -1), -1);
    }

    private static void manyBullets() {
        LeadNames x = Check.landed("person p born 0 lifts 99 dents 0;title a honour 1;heap a 99;");
        for (int i = 0; i < 18; i++) {
            x.gain(0, 0);
            x.melt(0, 0);
        }
        Check.same("8 of the first 16", x.bullets(80, 0), 12870);
        Check.same("the first", x.bullets(80, 1), 255);
        Check.same("16", x.bullets(160, 1), 65535);
        Check.same("17", x.bullets(170, 0), 0);
    }

    private static LeadNames titles(String... names) {
        StringBuilder text = new StringBuilder("letter a 1;letter b 2;letter c 30;");
        for (String name : names) {
            text.append("title ").append(name).append(" honour 1;");
        }
        return Check.landed(text.toString());
    }

    private static void row(String first, String second, int letters, int ounces, int shared) {
        LeadNames x = titles(first, second);
        for (int turn = 0; turn < 2; turn++) {
            String name = "row of " + first + ", " + second;
            Check.same(name, x.row(turn, 1 - turn, 0), letters);
            Check.same(name, x.row(turn, 1 - turn, 1), ounces);
            Check.same(name, x.row(turn, 1 - turn, 2), shared);
        }
    }

    private static void rows() {
        row("ab", "ba", 3, 4, 1); // aba is lighter than bab
        row("abca", "bc", 4, 34, 2);
        row("ab", "abc", 3, 33, 2);
        row("bc", "abc", 3, 33, 2);
        row("a", "b", 2, 3, 0);
        row("aab", "abb", 4, 6, 2);
        row("ac", "ca", 3, 32, 1); // aca, not cac
        row("baaaab", "baaaac", 11, 42, 1);
        row("abcabc", "bcabca", 7, 67, 5);
        LeadNames x = titles("ab", "ba");
        Check.same("alike", x.row(0, 0, 0), -1);
        Check.same("no title", x.row(0, 2, 0), -1);
        Check.same("no title", x.row(-1, 0, 0), -1);
        Check.same("what 3", x.row(0, 1, 3), -1);
        Check.same("what -1", x.row(0, 1, -1), -1);
    }

    private static void goings() {
        LeadNames x = Check.landed("letter a 10;person p born 0 lifts 0 dents 0;person q born 0 "
                + "lifts 0 dents 0;person r born 0 lifts 0 dents 0;person s born 0 lifts 0 dents 0;"
                + "title aaaaaa honour 1;title aaaaa honour 1;title aaaa honour 1;title aaa honour 1;"
                + "has p aaaaaa;has q aaaaa;has r aaaa;has s aaa;"
                + "bridge b 90;bridge c 180;bridge d 59;bridge e 0;");
        Check.same("60 + 30, 50 + 40", x.goings(0, 15), 2);
        Check.same("all", x.goings(1, 15), 1);
        Check.same("60 + 50 not", x.goings(0, 3), 2);
        Check.same("none go", x.goings(0, 0), 0);
        Check.same("one alone is too heavy", x.goings(2, 15), -1);
        Check.same("the others", x.goings(2, 14), 3);
        Check.same("a bridge of 0", x.goings(3, 8), -1);
        Check.same("no such person", x.goings(0, 16), -1);
        Check.same("persons below 0", x.goings(0, -1), -1);
        Check.same("no bridge", x.goings(4, 1), -1);
        Check.same("no bridge", x.goings(-1, 1), -1);
        x.drown(3);
        Check.same("without lead also over 0", x.goings(3, 8), 1);
    }

    private static void common() {
        LeadNames x = Check.landed("letter a 1;letter b 20;" + TWO
                + "person r born 0 lifts 0 dents 0;title aab honour 1;title abb honour 1;has p aab;"
                + "has q abb;");
        Check.same("a and b", x.common(0, 1), 21);
        Check.same("turned", x.common(1, 0), 21);
        Check.same("with none", x.common(0, 2), 0);
        x.steal(2, 0, 'a');
        Check.same("loose and in titles", x.common(0, 1), 21);
        Check.same("a", x.common(2, 1), 1);
        Check.same("they are one", x.common(1, 1), -1);
        Check.same("no person", x.common(3, 1), -1);
        Check.same("no person", x.common(1, -1), -1);
    }
}
