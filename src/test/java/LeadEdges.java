import java.util.Arrays;

/** Terms III: where the lead is, moves, spans, whose coat, bullets, rows, goings, images. */
final class LeadEdges {
    // Ounces: a 5, b 7, c 20. Titles: 0 ab (12), 1 ba (12), 2 abc (32), 3 aab (17).
    private static final String LAND = "letter a 5;letter b 7;letter c 20;"
            + "person p born 0 lifts 99 dents 0;person q born 0 lifts 99 dents 0;"
            + "person r born 0 lifts 0 dents 0;"
            + "title ab honour 5;title ba honour 6;title abc honour 9;title aab honour 2;";

    private LeadEdges() {
    }

    static void tell(Edges doc) {
        doc.in("Terms III");
        tellLead(doc);
        tellMoves(doc);
        tellSpans(doc);
        tellWhoseCoat(doc);
        tellBullets(doc);
        tellRows(doc);
        tellGoings(doc);
        tellImage(doc);
    }

    private static void tellLead(Edges doc) {
        doc.holds("LEAD is in COATS, THE HEAP, THE RIVER, BULLETS: ounces of each.", () -> {
            LeadNames x = Picture.of(0, 5, 1, 0).with(2, "ac").with(-1, "bb").drowned(70000)
                    .shot(3, 65535).in(LAND);
            Check.same("coats", x.lead(0), 12 + 32 + 12 + 25);
            Check.same("the heap", x.lead(1), 14);
            Check.same("the river", x.lead(2), 70000);
            Check.same("bullets", x.lead(3), 65538);
            Check.same("all", x.lead(4), 81 + 14 + 70000 + 65538);
        });
        doc.holds("(No act makes any, or loses any.)", () -> {
            LeadNames x = Picture.of(0, 7, 9, 2).with(0, "ac").with(2, "b").with(-1, "aabbc")
                    .in(LAND);
            int all = x.lead(4);
            for (int act = 0; act <= 10; act++) {
                Check.same("act " + act, done(x, act), true);
                Check.same("the lead behind act " + act, x.lead(4), all);
            }
        });
    }

    /** Each act once, in an order in which each can be. */
    private static boolean done(LeadNames x, int act) {
        switch (act) {
            case 0: return x.gain(1, 1) >= 0;
            case 1: return x.shed(0, 1) >= 0;
            case 2: return x.steal(2, 0, 'a') && x.steal(1, 2, 'a');
            case 3: return x.trade(0, 'c', 2, 'b');
            case 4: return x.lend(1, 0, 1) >= 0;
            case 5: return x.giveBack(0);
            case 6: return x.years(1) > 0;
            case 7: return x.melt(0, 2) > 0;
            case 8: return x.heir(0, 1) >= 0;
            case 9: return x.feast() >= 0;
            default: return x.drown(1) > 0;
        }
    }

    private static void moves(LeadNames x, int[][] due) {
        Check.same("moves", x.has(8), due.length);
        for (int k = 0; k < due.length; k++) {
            for (int what = 0; what < 5; what++) {
                Check.same("move " + k + ", " + what, x.moved(k, what), due[k][what]);
            }
        }
    }

    private static void tellMoves(Edges doc) {
        doc.holds("A MOVE: each of these acts that was done (also of 0 ounces", () -> {
            LeadNames x = Picture.of(0, 0, 0, 0).with(0, "ab").in(LAND);
            x.gain(0, 0);
            x.drown(2);
            x.heir(2, 1);
            moves(x, new int[][] {{0, 0, 0, -1, 0}, {0, 6, 2, -1, 0}, {0, 8, 2, 1, 0}});
            // Refused ones are none.
            x.gain(0, 0);
            x.shed(1, 0);
            x.steal(0, 1, 'a');
            x.trade(0, 'a', 1, 'b');
            x.lend(1, 0, 0);
            x.giveBack(0);
            x.drown(3);
            x.melt(1, 0);
            x.heir(0, 0);
            x.years(0);
            Check.same("refused ones are none", x.has(8), 3);
            x.image();
            x.seed(5);
            x.years(1);
            Check.same("nor what is no act", x.has(8), 3);
        });
        doc.holds("SHED by a YEAR likewise", () -> {
            LeadNames x = Picture.of(6, 0, 0, 5).in(LAND);
            x.years(2);
            moves(x, new int[][] {{7, 1, 2, -1, 12}, {7, 1, 2, -1, 32}});
        });
        doc.holds("LOOSE letters that come to THE HEAP by a YEAR are none)", () -> {
            LeadNames x = Picture.of(6, 0, 0, 1).with(2, "abc").in(LAND);
            x.years(1);
            Check.same("in the heap", x.lead(1), 44);
            moves(x, new int[][] {{7, 1, 2, -1, 12}});
        });
        doc.holds("YEAR, kind (0 GAIN, 1 SHED, 2 STEAL, 3 TRADE, 4 LEND, 5 GIVE BACK, 6 DROWN, "
                + "7 MELT, 8 HEIR)", () -> {
            LeadNames x = allKinds();
            for (int kind = 0; kind <= 8; kind++) {
                Check.same("year", x.moved(kind, 0), kind);
                Check.same("kind", x.moved(kind, 1), kind);
            }
            Check.same("nine", x.has(8), 9);
            LeadNames y = Check.landed(LAND + "heap a 9;heap b 9;");
            Check.same("a feast", y.feast() > 0, true);
            Check.same("its gain is one", y.moved(0, 1), 0);
        });
        doc.holds("who (the thief, of STEAL; who lent, of LEND; who borrowed, of GIVE BACK; whose "
                + "COAT it was, of HEIR)", () -> {
            int[] due = {0, 0, 2, 2, 1, 0, 1, 0, 0};
            for (int kind = 0; kind <= 8; kind++) {
                Check.same("who of " + kind, allKinds().moved(kind, 2), due[kind]);
            }
        });
        doc.holds("the other one (NONE without)", () -> {
            int[] due = {-1, -1, 0, 0, 0, 1, -1, -1, 1};
            for (int kind = 0; kind <= 8; kind++) {
                Check.same("the other one of " + kind, allKinds().moved(kind, 3), due[kind]);
            }
        });
        doc.holds("ounces (of GAIN those out of THE HEAP, of TRADE those that the first one gave, "
                + "of HEIR what the other one got, of DROWN all)", () -> {
            int[] due = {7, 12, 5, 20, 12, 12, 12 + 5, 32, 17};
            for (int kind = 0; kind <= 8; kind++) {
                Check.same("ounces of " + kind, allKinds().moved(kind, 4), due[kind]);
            }
            // Of what the other one had, and of what came to the heap, nothing.
            LeadNames x = Picture.of(0, 3, 1, 0).with(0, "c").with(1, "c").in(LAND);
            x.heir(0, 1);
            Check.same("ba alone", x.moved(0, 4), 12);
        });
        doc.holds("the last 60 are kept, the oldest go.", () -> {
            LeadNames x = Check.landed(LAND);
            for (int i = 1; i <= 60; i++) {
                x.drown(i == 1 ? 0 : 1);
                Check.same("moves", x.has(8), i);
            }
            Check.same("the first is kept", x.moved(0, 2), 0);
            x.drown(2);
            Check.same("sixty", x.has(8), 60);
            Check.same("the first went", x.moved(0, 2), 1);
            Check.same("the last", x.moved(59, 2), 2);
            for (int i = 0; i < 59; i++) {
                x.drown(0);
            }
            Check.same("all but the last went", x.moved(0, 2), 2);
            Check.same("those behind it", x.moved(1, 2), 0);
            x.drown(1);
            Check.same("all went", x.moved(0, 2), 0);
            Check.same("the last", x.moved(59, 2), 1);
        });
    }

    /** One act of each kind, by the numbers of kinds, kind k in the year k. */
    private static LeadNames allKinds() {
        LeadNames x = Picture.of(0, 14, 1, 0).with(0, "a").with(1, "a").with(2, "c").with(-1, "b")
                .in(LAND + "bears 99 when all;");
        x.gain(0, 0);
        x.years(1);
        x.shed(0, 1);
        x.years(1);
        x.steal(2, 0, 'a');
        x.years(1);
        x.trade(2, 'c', 0, 'b');
        x.years(1);
        x.lend(1, 0, 0);
        x.years(1);
        x.giveBack(0);
        x.years(1);
        x.drown(1);
        x.years(1);
        x.melt(0, 2);
        x.years(1);
        x.heir(0, 1);
        return x;
    }

    private static void spans(LeadNames x, int[][] due) {
        for (int k = 0; k < due.length; k++) {
            for (int what = 0; what < 4; what++) {
                Check.same("span " + k + ", " + what, x.span(k, what), due[k][what]);
            }
        }
        Check.same("no more", x.span(due.length, 0), -1);
    }

    private static void tellSpans(Edges doc) {
        doc.holds("BORNE: a TITLE by a PERSON, from the YEAR in which it came to that in which it "
                + "went (both counted), or till now", () -> {
            // Gained in 0; each way in which a title goes but by a year.
            spans(allKinds(), new int[][] {{0, 1, 0, 1}, {0, 0, 0, 2}, {1, 0, 0, 4}, {0, 0, 4, 5},
                {1, 0, 5, 6}, {0, 2, 0, 7}, {0, 3, 0, 8}});
            LeadNames x = Picture.of(10, 0, 0, 1).in(LAND);
            x.years(1);
            spans(x, new int[][] {{2, 0, 10, 11}});
            Check.same("ahead of it", x.signed(0, 9), 0);
            Check.same("the year in which it came", x.signed(0, 10), 4);
            Check.same("the year in which it went", x.signed(0, 11), 4);
            x.years(4);
            Check.same("behind it", x.signed(0, 12), 0);
            x.gain(0, 0);
            Check.same("the year in which it came", x.signed(0, 15), 1);
            Check.same("ahead of it", x.signed(0, 14), 0);
            x.years(2);
            Check.same("till now", x.signed(0, 17), 1);
            Check.same("not what will be", x.signed(0, 18), 0);
            x.shed(0, 0);
            x.gain(0, 0);
            x.shed(0, 0);
            spans(x, new int[][] {{2, 0, 10, 11}, {0, 0, 15, 17}, {0, 0, 17, 17}});
            Check.same("came and went", x.signed(0, 17), 1);
        });
        doc.holds("80 such SPANS that are over are kept, the oldest go.", () -> {
            LeadNames x = Picture.of(0, 0, 0, 0).with(-1, "ab").in(LAND);
            for (int i = 0; i < 80; i++) {
                x.gain(i == 0 ? 1 : 0, 0);
                x.shed(i == 0 ? 1 : 0, 0);
            }
            Check.same("the oldest", x.span(0, 0), 1);
            Check.same("the newest", x.span(79, 0), 0);
            Check.same("no more", x.span(80, 0), -1);
            Check.same("both signed", x.signed(0, 0), 3);
            x.gain(0, 1);
            Check.same("one that is not over goes for none", x.span(0, 0), 1);
            x.shed(0, 1);
            Check.same("the oldest went", x.span(0, 0), 0);
            Check.same("the newest", x.span(79, 1), 1);
            Check.same("no more", x.span(80, 0), -1);
            Check.same("its bearer is not known", x.signed(0, 0), 1);
        });
        doc.holds("COULD SIGN as a TITLE in a YEAR: who BORE it then.", () -> {
            LeadNames x = Picture.of(10, 1, 3, 0).in(LAND);
            Check.same("who has it", x.signed(0, 10), 3);
            Check.same("another title", x.signed(1, 10), 2);
            x.years(5);
            x.lend(1, 0, 1);
            Check.same("who lent and who borrowed", x.signed(1, 15), 3);
            Check.same("who lent", x.signed(1, 14), 2);
            x.years(1);
            Check.same("who borrowed", x.signed(1, 16), 1);
            Check.same("none has abc", x.signed(2, 15), 0);
        });
    }

    private static LeadNames dents(int... dents) {
        StringBuilder text = new StringBuilder();
        for (int i = 0; i < dents.length; i++) {
            text.append("person p").append((char) ('a' + i)).append(" born 0 lifts 0 dents ")
                    .append(dents[i]).append(';');
        }
        return Check.landed(text.toString());
    }

    private static void tellWhoseCoat(Edges doc) {
        doc.holds("WHOSE COAT: a coat was found with n letters, k of them dented: likely for a "
                + "PERSON is 10 to the 9, times (of k times) its dents, (n less k times) 100 less "
                + "these, / 100 each time, the greatest whole number not above, the dented ones "
                + "first.", () -> {
            // 1 of 100 four times of 10 to the 9 is 10, then 99 of 100 nine times, with floors: 1;
            // 2 of 100 so often is 160, then 130. With the dented ones last it were 9 and 133.
            Check.same("floors, the dented ones first", dents(1, 2).share(0, 13, 4), 1000 / 131);
            Check.same("of the other one", dents(1, 2).share(1, 13, 4), 130 * 1000 / 131);
            // 50 of 100 thirty times is 0, twenty-nine times 1: 953674 .. 1.
            Check.same("29 times", dents(50, 0).share(0, 29, 29), 1000);
            Check.same("30 times", dents(50, 0).share(0, 30, 30), 0);
            Check.same("0 of 100, none dented", dents(0, 50).share(0, 1, 0), 666);
            Check.same("100 of 100, all dented", dents(100, 50).share(0, 1, 1), 666);
            Check.same("100 of 100, forty", dents(100, 99).share(0, 40, 40) > 500, true);
        });
        doc.holds("Its SHARE: floor(1000 times that / all of these together)", () -> {
            LeadNames x = dents(10, 20, 30);
            Check.same("all alike without letters", x.share(0, 0, 0), 333);
            Check.same("1 of 6", x.share(0, 1, 1), 166);
            Check.same("2 of 6", x.share(1, 1, 1), 333);
            Check.same("3 of 6", x.share(2, 1, 1), 500);
            Check.same("one alone", dents(7).share(0, 3, 2), 1000);
            Check.same("one of eight", dents(5, 5, 5, 5, 5, 5, 5, 5).share(7, 2, 1), 125);
        });
        doc.holds("0 if that is 0.", () -> {
            Check.same("all together are 0", dents(0, 100).share(0, 2, 1), 0);
            Check.same("all together are 0", dents(0, 100).share(1, 2, 1), 0);
            Check.same("one alone", dents(0).share(0, 1, 1), 0);
            Check.same("its own is 0", dents(0, 50).share(0, 1, 1), 0);
        });
    }

    private static LeadNames shot(int... bullets) {
        return Picture.of(0, 0, 0, 0).shot(bullets).in(LAND);
    }

    private static void tellBullets(Edges doc) {
        doc.holds("IN THE BULLETS: of all sets of BULLETS (the first 16 of them)", () -> {
            int[] row = new int[30];
            Arrays.fill(row, 1);
            row[15] = 100;
            row[16] = 1000;
            LeadNames x = shot(row);
            Check.same("the 16th", x.bullets(100, 1), 1 << 15);
            Check.same("the 17th", x.bullets(1000, 0), 0);
            Check.same("all sixteen", x.bullets(115, 1), 65535);
            Check.same("more than that", x.bullets(116, 0), 0);
            Check.same("the set of none", x.bullets(0, 0), 1);
            Check.same("also without bullets", shot().bullets(0, 0), 1);
            Check.same("without bullets", shot().bullets(1, 0), 0);
        });
        doc.holds("those with so many ounces together: how many", () -> {
            int[] ones = new int[16];
            Arrays.fill(ones, 1);
            LeadNames x = shot(ones);
            Check.same("one of 16", x.bullets(1, 0), 16);
            Check.same("eight of 16", x.bullets(8, 0), 12870);
            Check.same("all", x.bullets(16, 0), 1);
            LeadNames y = shot(5, 3, 2, 5);
            Check.same("5", y.bullets(5, 0), 3);
            Check.same("10", y.bullets(10, 0), 3);
            Check.same("15", y.bullets(15, 0), 1);
            Check.same("1", y.bullets(1, 0), 0);
            Check.same("16", y.bullets(16, 0), 0);
        });
        doc.holds("how many; the least number of bits.", () -> {
            Check.same("3 and 2 are behind 5", shot(5, 3, 2, 5).bullets(5, 1), 1);
            Check.same("2 and 3 are ahead of 5", shot(2, 3, 5).bullets(5, 1), 3);
            Check.same("the first of like ones", shot(4, 4, 4).bullets(8, 1), 3);
            Check.same("of none", shot(4, 4, 4).bullets(0, 1), 0);
        });
        doc.holds("CALLED: the TITLES that could be laid out of letters that one has, LOOSE or in "
                + "TITLES.", () -> {
            LeadNames x = Picture.of(0, 1, 8, 0).with(0, "c").with(2, "bcc").in(LAND);
            Check.same("ab and a loose c", x.person(0, 8), 7);
            Check.same("aab: each as often", x.person(1, 8), 11);
            Check.same("no a", x.person(2, 8), 0);
            Check.same("ab has one a alone", Picture.of(0, 1, 0, 0).in(LAND).person(0, 8), 3);
            Check.same("a and b in two", Picture.of(0, 3, 0, 0).in(LAND).person(0, 8), 11);
            Check.same("nothing", Picture.of(0, 0, 0, 0).with(-1, "abc").in(LAND).person(0, 8), 0);
        });
    }

    private static void row(String first, String second, int letters, int ounces) {
        LeadNames x = Check.landed("letter a 1;letter b 2;letter c 30;title " + first
                + " honour 1;title " + second + " honour 1;");
        for (int turn = 0; turn < 2; turn++) {
            String name = "row of " + first + ", " + second;
            Check.same(name, x.row(turn, 1 - turn, 0), letters);
            Check.same(name, x.row(turn, 1 - turn, 1), ounces);
            Check.same(name, x.row(turn, 1 - turn, 2), first.length() + second.length() - letters);
        }
    }

    private static void tellRows(Edges doc) {
        doc.holds("ON ONE ROW: two TITLES in the shortest row of letters in which both stand (one "
                + "behind the other, as many as can be shared at the joint; or one within the "
                + "other)", () -> {
            row("a", "b", 2, 3);
            row("abcabc", "ccbbaa", 11, 66 + 66 - 30);
            row("aab", "abb", 4, 6);
            row("abcabc", "bcabca", 7, 67);
            row("aabbcc", "bbccaa", 8, 68);
            row("a", "ab", 2, 3);
            row("b", "ab", 2, 3);
            row("b", "abc", 3, 33);
            row("c", "abcba", 5, 36);
            row("bc", "aaabca", 6, 36);
            row("c", "aaaaca", 6, 35);
            row("bcab", "abcabc", 6, 66);
            row("aa", "aaaaaa", 6, 6);
            row("a", "hhbbbb", 7, 29);
            row("aaaaa", "aaaaaa", 6, 6);
            row("aba", "babab", 5, 8);
            row("abab", "baba", 5, 7);
        });
        doc.holds("of like ones with the fewest ounces: how long; its ounces.", () -> {
            row("ab", "ba", 3, 4); // aba, not bab
            row("ca", "ac", 3, 32); // aca, not cac
            row("ba", "ab", 3, 4);
            row("abc", "cca", 5, 33 + 61 - 30); // abcca, not ccabc
            row("cab", "bcc", 5, 33 + 62 - 30); // bccab, not cabcc
            // Length ahead of ounces: cabc has 63, abcab 36.
            row("cab", "abc", 4, 63);
        });
    }

    private static LeadNames loads(int bears, int... loads) {
        Picture picture = new Picture(loads.length);
        for (int p = 0; p < loads.length; p++) {
            picture.loose[p][0] = loads[p];
        }
        return picture.in("letter a 1;bridge b " + bears + ";" + World.persons(loads.length, 0));
    }

    private static void tellGoings(Edges doc) {
        doc.holds("GOINGS over a BRIDGE of a set of PERSONS (bits): the fewest groups, each with a "
                + "LOAD together not above what it bears.", () -> {
            Check.same("just what it bears", loads(10, 6, 4).goings(0, 3), 1);
            Check.same("an ounce above", loads(10, 7, 4).goings(0, 3), 2);
            Check.same("one alone", loads(10, 10).goings(0, 1), 1);
            Check.same("the second alone", loads(10, 99, 10).goings(0, 2), 1);
            Check.same("none", loads(10, 99, 10).goings(0, 0), 0);
            Check.same("each alone", loads(9, 5, 5, 5, 5, 5, 5, 5, 5).goings(0, 255), 8);
            Check.same("all at once", loads(40, 5, 5, 5, 5, 5, 5, 5, 5).goings(0, 255), 1);
            // Filling groups as they come, the heaviest or the lightest first, takes four.
            Check.same("three", loads(15, 3, 5, 9, 3, 5, 5, 8, 6).goings(0, 255), 3);
            Check.same("three", loads(14, 3, 9, 9, 2, 4, 7, 3, 5).goings(0, 255), 3);
            Check.same("without lead", loads(0, 0, 0, 0).goings(0, 7), 1);
            // Each set alone, whatever was asked ahead of it.
            LeadNames x = loads(15, 3, 5, 9, 3, 5, 5, 8, 6);
            for (int set = 255; set >= 0; set--) {
                Check.same("set " + set, x.goings(0, set),
                        loads(15, 3, 5, 9, 3, 5, 5, 8, 6).goings(0, set));
            }
        });
    }

    private static void tellImage(Edges doc) {
        doc.holds("AN IMAGE: YEAR (two bytes, the higher first)", () -> {
            LeadNames x = Picture.of(999, 0, 0, 0).in(LAND);
            x.image();
            Check.same("the higher", x.octet(0), 3);
            Check.same("the lower", x.octet(1), 231);
            LeadNames y = Picture.of(255, 0, 0, 0).in(LAND);
            y.image();
            Check.same("the higher", y.octet(0), 0);
            Check.same("the lower", y.octet(1), 255);
        });
        doc.holds("for each PERSON its TITLES (two bytes), LOOSE letters a .. z (two bytes each)",
                () -> {
            String land = World.persons(2, 0) + World.many("title # honour 0;", 12);
            Picture picture = Picture.of(0, 4095, 256);
            picture.loose[0][0] = 256;
            picture.loose[0][25] = 511;
            picture.loose[1][1] = 255;
            LeadNames x = picture.in(land);
            Check.same("bytes", x.image(), 2 + 2 * 54 + 52 + 3 + 1 + 1);
            int[][] due = {{2, 15}, {3, 255}, {4, 1}, {5, 0}, {54, 1}, {55, 255}, {56, 1}, {57, 0},
                {58, 0}, {59, 0}, {60, 0}, {61, 255}};
            for (int[] pair : due) {
                Check.same("byte " + pair[0], x.octet(pair[0]), pair[1]);
            }
            Check.same("without persons", new LeadNames().image(), 59);
            Check.same("of eight", Check.landed(World.persons(8, 0)).image(), 59 + 8 * 54);
        });
        doc.holds("THE HEAP (likewise)", () -> {
            Picture picture = new Picture(1);
            picture.heap[0] = 258;
            picture.heap[25] = 9741;
            LeadNames x = picture.in(World.persons(1, 0));
            x.image();
            Check.same("a", x.octet(56) * 1000 + x.octet(57), 1002);
            Check.same("z", x.octet(106) * 1000 + x.octet(107), 38013);
        });
        doc.holds("ounces in THE RIVER (three bytes)", () -> {
            int[] rivers = {0, 255, 256, 65535, 65536, 9999999};
            for (int river : rivers) {
                LeadNames x = new Picture(0).drowned(river).in("");
                x.image();
                Check.same("river " + river,
                        (x.octet(54) << 16) + (x.octet(55) << 8) + x.octet(56), river);
            }
        });
        doc.holds("how many BULLETS, each one's ounces (two)", () -> {
            LeadNames x = new Picture(0).shot(1, 255, 256, 65535).in("");
            Check.same("bytes", x.image(), 59 + 8);
            int[] due = {4, 0, 1, 0, 255, 1, 0, 255, 255};
            for (int i = 0; i < due.length; i++) {
                Check.same("byte " + (57 + i), x.octet(57 + i), due[i]);
            }
            int[] row = new int[30];
            Arrays.fill(row, 594);
            Check.same("thirty", new Picture(0).shot(row).in("").image(), 59 + 60);
        });
        doc.holds("last a byte: all ahead from 41 on, c = (3 c + it) mod 239.", () -> {
            int[] years = {0, 1, 99, 238, 239, 999};
            for (int year : years) {
                Picture picture = Picture.of(year, 5, 1, 0).with(0, "aac").with(-1, "bz")
                        .drowned(4711).shot(594);
                byte[] image = picture.bytes();
                LeadNames x = picture.in(LAND);
                Check.same("bytes", x.image(), image.length);
                Check.same("the last", x.octet(image.length - 1), image[image.length - 1] & 255);
            }
            // By hand: 58 bytes of 0 behind 41 are 41 times 3 to the 58, mod 239.
            int c = 41;
            for (int i = 0; i < 58; i++) {
                c = c * 3 % 239;
            }
            LeadNames y = new LeadNames();
            y.image();
            Check.same("of nothing", y.octet(58), c);
        });
    }
}
