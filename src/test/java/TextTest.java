/** Promises 1 to 5: a new object, the tape, and what a text may be. */
final class TextTest {
    private static final Check CHECK = new Check("TextTest");

    public static void main(String[] args) {
        newObject();
        tape();
        byteOrder();
        tapeEnds();
        cutTape();
        marketTells();
        marketStartsAnew();
        marketForgetsFormer();
        faultLeavesAll();
        faultAnswers();
        tokens();
        misplaced();
        tooMany();
        names();
        numbers();
        formulas();
        units();
        nesting();
        CHECK.end();
    }

    private static void newObject() {
        CricketHay x = new CricketHay();
        int[] due = {0, 0, 3, 0, 0, 0, 0, 0, 0, 0, 0, 0, 0, 0};
        for (int i = 0; i < due.length; i++) {
            CHECK.due("new: about(" + i + ")", due[i], x.about(i));
        }
        CHECK.due("new: heat()", 20, x.heat());
        CHECK.due("new: chorus()", 0, x.chorus());
        CHECK.due("new: fault(0)", 0, x.fault(0));
        CHECK.due("new: fault(1)", -1, x.fault(1));
        CHECK.due("new: dealer(0, 0)", -100, x.dealer(0, 0));
        CHECK.due("new: price(0, 1)", -1, x.price(0, 1));
        CHECK.due("new: undo()", false, x.undo());
        CHECK.due("new: redo()", false, x.redo());
        CHECK.due("new: lies(0)", -100, x.lies(0));
        CHECK.due("new: back(0)", -1, x.back(0));
        CHECK.due("new: fits(0)", 100, x.fits(0));
    }

    private static void tape() {
        CricketHay x = new CricketHay();
        for (int i = 1; i <= 80; i++) {
            CHECK.due("feed " + i, 20 * i, x.feed(0, 0, 0, 0, 0));
        }
        CHECK.due("feed 81", -1, x.feed(0, 0, 0, 0, 0));
        CHECK.due("bytes on a full tape", 1600, x.about(11));
        CHECK.due("end(1581)", 1581, x.end(1581));
        CHECK.due("feed behind 1581", -1, x.feed(0, 0, 0, 0, 0));
        CHECK.due("bytes as they were", 1581, x.about(11));
        CHECK.due("end(1580)", 1580, x.end(1580));
        CHECK.due("feed behind 1580", 1600, x.feed(0, 0, 0, 0, 0));
    }

    private static void byteOrder() {
        for (int i = 0; i < 20; i++) {
            CricketHay x = new CricketHay();
            int[] five = {0x20202020, 0x20202020, 0x20202020, 0x20202020, 0x20202020};
            int shift = 24 - 8 * (i % 4);
            five[i / 4] = five[i / 4] & ~(255 << shift) | 200 << shift;
            x.feed(five[0], five[1], five[2], five[3], five[4]);
            CHECK.due("a byte 200 at " + i, -1, x.market());
            CHECK.due("its fault", 1, x.fault(0));
            CHECK.due("its place", i, x.fault(1));
        }
        CricketHay x = new CricketHay();
        x.feed(0x63617274, 0x20373b20, 0x0a0a0a0a, 0x20202020, 0x20202020);
        CHECK.due("cart 7;", 0, x.market());
        CHECK.due("its cart", 7, x.about(2));
    }

    private static void tapeEnds() {
        CricketHay x = new CricketHay();
        x.feed(1, 2, 3, 4, 5);
        CHECK.due("end(-1)", -1, x.end(-1));
        CHECK.due("end(21)", -1, x.end(21));
        CHECK.due("end(least)", -1, x.end(Integer.MIN_VALUE));
        CHECK.due("end(most)", -1, x.end(Integer.MAX_VALUE));
        CHECK.due("bytes as they were", 20, x.about(11));
        CHECK.due("end(20)", 20, x.end(20));
        CHECK.due("end(13)", 13, x.end(13));
        CHECK.due("end(14)", -1, x.end(14));
        CHECK.due("feed behind 13", 33, x.feed(1, 2, 3, 4, 5));
        CHECK.due("end(0)", 0, x.end(0));
        CHECK.due("bytes of none", 0, x.about(11));
    }

    private static void cut(String text, int n, int fault, int place) {
        CricketHay x = new CricketHay();
        Texts.feed(x, text);
        CHECK.due("end(" + n + ") of " + text, n, x.end(n));
        x.market();
        CHECK.due("fault of " + n + " of " + text, fault, x.fault(0));
        CHECK.due("place of " + n + " of " + text, place, x.fault(1));
    }

    /** What was fed and is cut off counts for nothing. */
    private static void cutTape() {
        cut("kind abcdef;", 12, 0, -1);
        cut("kind abcdef;", 8, 2, 8);
        cut("kind abcdefghi;", 13, 2, 13);
        cut("kind;", 3, 2, 0);
        cut("cart 12345;", 7, 4, 5);
        cut("draw 12345;", 8, 2, 8);
        cut("draw 5a;", 6, 2, 6);
        cut("kind a   b", 8, 2, 8);
        cut("cart 5;;", 7, 0, -1);
        cut("cart 5;$", 7, 0, -1);
        cut("cart 5; ", 0, 0, -1);
    }

    private static void marketTells() {
        CricketHay x = Texts.of("kind k;kind j;dealer a of j song 3 age 4 gold 500 loads 6 needs 7;"
            + "\ndealer k of k song 9;snap 30 of 4;cart 8;draw 123;heat 7+hour;chirps song*2;");
        int[] about = {2, 2, 8, 0, 0, 123, 0, 0, 0, 0, 0, 0, 4, 0};
        for (int i = 0; i < about.length; i++) {
            CHECK.due("told: about(" + i + ")", about[i], x.about(i));
        }
        int[] first = {500, 6, 7, 0, 1, 3, 4, 0, 0, 6, 0};
        int[] second = {0, 0, 0, 0, 0, 9, 0, 0, 0, 18, 0};
        for (int i = 0; i < first.length; i++) {
            CHECK.due("told: dealer(0, " + i + ")", first[i], x.dealer(0, i));
            CHECK.due("told: dealer(1, " + i + ")", second[i], x.dealer(1, i));
        }
        CHECK.due("told: heat()", 7, x.heat());
        CHECK.due("an empty text", 0, x.market());
        CHECK.due("its kinds", 0, x.about(1));
        CHECK.due("its cart", 3, x.about(2));
        CHECK.due("its seed", 0, x.about(5));
        CHECK.due("its heat", 20, x.heat());
        CHECK.due("its units", 0, x.about(12));
    }

    private static final String TWO = "kind k;dealer a of k song 1 gold 500 loads 9;"
        + "dealer b of k song 2 gold 500 loads 9;";

    private static CricketHay used() {
        CricketHay x = Texts.of(TWO + "snap 100 of 5;");
        x.buy(0, 1, 2);
        x.hour();
        x.hour();
        x.undo();
        x.heard(3, 4, true);
        x.later(7);
        for (int box = 0; box < 3; box++) {
            x.image(box);
        }
        x.plan(0, 1, 3, 2);
        return x;
    }

    private static void marketStartsAnew() {
        CricketHay x = used();
        CHECK.due("acts to undo", 2, x.about(7));
        CHECK.due("acts to redo", 1, x.about(8));
        CHECK.due("the cold", 5, x.about(6));
        CHECK.due("what lies there", 2, x.about(13));
        CHECK.due("market", 2, Texts.market(x, TWO));
        int[] about = {2, 1, 3, 0, 0, 0, 0, 0, 0, 0, 7, 0, 0, 0};
        for (int i = 0; i < about.length; i++) {
            CHECK.due("anew: about(" + i + ")", about[i], x.about(i));
        }
        CHECK.due("anew: gold", 500, x.dealer(0, 0));
        CHECK.due("anew: loads", 9, x.dealer(0, 1));
        CHECK.due("anew: undo()", false, x.undo());
        CHECK.due("anew: redo()", false, x.redo());
        CHECK.due("anew: lies(0)", -100, x.lies(0));
        for (int box = 0; box < 3; box++) {
            CHECK.due("anew: back(" + box + ")", -1, x.back(box));
        }
        CHECK.due("anew: fits", 100, x.fits(1000));
        CHECK.due("anew: the TIME goes on", 8, x.later(1));
    }

    /** All that a richer MARKET told or left is gone with the next one. */
    private static void marketForgetsFormer() {
        String rich = "kind k;kind j;dealer a of j song 9 age 9 gold 9 loads 9 needs 9;"
            + "dealer b of j song 8 age 8 needs 8;dealer c of j song 7;chirps 77+day;heat 33+hour;"
            + "snap 100 of 20;cart 9;draw 999;";
        CricketHay x = Texts.of(rich);
        CHECK.due("the same once more", 3, Texts.market(x, rich));
        for (int i = 0; i < 26; i++) {
            x.hour();
        }
        x.breathe(0, 5);
        x.breathe(1, -5);
        x.free(0);
        CHECK.due("HUNGER ahead", 8, x.dealer(1, 3));
        CHECK.due("market", 2, Texts.market(x, "kind k;dealer a of k song 1;dealer b of k song 2;"));
        int[] first = {0, 0, 0, 0, 0, 1, 0, 0, 0, 21, 1};
        int[] second = {0, 0, 0, 0, 0, 2, 0, 0, 0, 22, 1};
        for (int i = 0; i < first.length; i++) {
            CHECK.due("former: dealer(0, " + i + ")", first[i], x.dealer(0, i));
            CHECK.due("former: dealer(1, " + i + ")", second[i], x.dealer(1, i));
        }
        int[] about = {2, 1, 3, 0, 0, 0, 0, 0, 0, 0, 0, 0, 0, 0};
        for (int i = 0; i < about.length; i++) {
            CHECK.due("former: about(" + i + ")", about[i], x.about(i));
        }
        CHECK.due("former: chorus()", 43, x.chorus());
        CHECK.due("former: law(3)", 22, x.law(3));
        CHECK.due("former: hour()", 20, x.hour());
        CHECK.due("former: the COLD", 0, x.about(6));
        CHECK.due("former: fits", 100, x.fits(0));
        CHECK.due("a KIND of a former one", -1, Texts.market(x, "kind k;dealer a of j song 1;"));
        CHECK.due("its fault", 5, x.fault(0));
        CHECK.due("a NAME of former ones", 1, Texts.market(x, "kind j;dealer b of j song 1;"));
        CHECK.due("four KINDS' worth of names", -1,
            Texts.market(x, "kind a;kind b;kind c;dealer d of e song 1;"));
        CHECK.due("its place", 33, x.fault(1));
    }

    private static void faultLeavesAll() {
        CricketHay x = used();
        int[] before = new int[14];
        for (int i = 0; i < before.length; i++) {
            before[i] = x.about(i);
        }
        CHECK.due("a faulty market", -1, Texts.market(x, "kind z;cart 9;draw 5;heat 3;kind z;"));
        for (int i = 0; i < before.length; i++) {
            CHECK.due("behind a fault: about(" + i + ")", before[i], x.about(i));
        }
        CHECK.due("behind a fault: the tape", 0, x.about(11));
        CHECK.due("behind a fault: heat()", 15, x.heat());
        CHECK.due("behind a fault: what lies there", 3, x.lies(1));
        CHECK.due("behind a fault: redo()", true, x.redo());
        CHECK.due("behind a fault: back(1)", 0, x.back(1));
        CHECK.due("behind a fault: gold", 500 - 2 * 21, x.dealer(0, 0));
    }

    private static void faultAnswers() {
        CricketHay x = new CricketHay();
        Texts.market(x, "kind a;;");
        CHECK.due("fault(0)", 2, x.fault(0));
        CHECK.due("fault(1)", 7, x.fault(1));
        CHECK.due("fault(2)", -1, x.fault(2));
        CHECK.due("fault(-1)", -1, x.fault(-1));
        Texts.market(x, "kind a;");
        CHECK.due("fault(0) of a good one", 0, x.fault(0));
        CHECK.due("fault(1) of a good one", -1, x.fault(1));
    }

    private static void good(String text) {
        fault(text, 0, -1);
    }

    private static void fault(String text, int fault, int place) {
        CricketHay x = new CricketHay();
        int answer = Texts.market(x, text);
        CHECK.due("whether good: " + text, fault == 0, answer >= 0);
        CHECK.due("fault of: " + text, fault, x.fault(0));
        CHECK.due("place of: " + text, place, x.fault(1));
    }

    private static void tokens() {
        good("");
        good(" \n \n");
        good("cart3;");
        good("kind abcdefgh;");
        good("cart\n5\n;");
        good("cart 0005;");
        good("heat 1+2*(3);");
        fault("kind abcdefghi;", 1, 5);
        fault("kindkinds;", 1, 0);
        fault("cart 00005;", 1, 5);
        fault("cart 5a;", 1, 5);
        fault("cart 5 a;", 2, 7);
        fault("cart 5A;", 1, 6);
        fault("heat 5hour;", 1, 5);
        fault("heat 12345;", 1, 5);
        fault("Kind a;", 1, 0);
        fault("kind\ta;", 1, 4);
        fault("kind\ra;", 1, 4);
        fault("kind a,", 1, 6);
        fault("heat 1!", 1, 6);
        fault("kind \u00e9;", 1, 5);
        fault("kind {;", 1, 5);
        fault("kind `;", 1, 5);
        fault("kind a:", 1, 6);
        fault("cart 1?;", 1, 6);
        fault("kind of abcdefghi", 2, 5);
        fault("cart 10 abcdefghi", 4, 5);
        fault("cart 12345 of", 1, 5);
        fault("5a", 1, 0);
        fault("cart 1.", 1, 6);
        fault("cart 1\0", 1, 6);
    }

    private static void misplaced() {
        fault(";", 2, 0);
        fault("  of", 2, 2);
        fault("a", 2, 0);
        fault("1", 2, 0);
        fault("kind", 2, 4);
        fault("kind  ", 2, 6);
        fault("kind a", 2, 6);
        fault("kind a b;", 2, 7);
        fault("kind 1;", 2, 5);
        fault("kind a;dealer", 2, 13);
        fault("kind a;dealer d a song 1;", 2, 16);
        fault("kind a;dealer d of 1", 2, 19);
        fault("kind a;dealer d of song", 2, 19);
        fault("kind a;dealer d of a;", 2, 20);
        fault("kind a;dealer d of a song;", 2, 25);
        fault("kind a;dealer d of a song a;", 2, 26);
        fault("kind a;dealer d of a song 1 song 1;", 2, 28);
        fault("kind a;dealer d of a song 1 gold 1 age 1;", 2, 35);
        fault("kind a;dealer d of a song 1 needs 1 loads 1;", 2, 36);
        fault("kind a;dealer d of a song 1 loads 1 gold 1;", 2, 36);
        fault("kind a;dealer d of a song 1 age 1 age 1;", 2, 34);
        fault("kind a;dealer d of a song 1 age;", 2, 31);
        fault("kind a;dealer d of a song 1", 2, 27);
        good("kind a;dealer d of a song 1 gold 1;");
        good("kind a;dealer d of a song 1 age 2 needs 1;");
        good("kind a;dealer d of a song 1 loads 1;");
        fault("snap 5 6;", 2, 7);
        fault("snap 5 of;", 2, 9);
        fault("snap of 5;", 2, 5);
        fault("cart;", 2, 4);
        fault("draw 5 5;", 2, 7);
        fault("draw", 2, 4);
    }

    private static void tooMany() {
        good("kind a;kind b;kind c;");
        fault("kind a;kind b;kind c;kind d;", 2, 21);
        fault("kind a;kind b;kind c;kind abcdefghi", 2, 21);
        StringBuilder six = new StringBuilder("kind k;");
        for (char c = 'a'; c <= 'f'; c++) {
            six.append("dealer ").append(c).append(" of k song 0;");
        }
        good(six.toString());
        fault(six + "dealer g of k song 0;", 2, six.length());
        fault("chirps 1;chirps 2;", 2, 9);
        fault("heat 1;heat 1;", 2, 7);
        fault("snap 1 of 1;snap 1 of 1;", 2, 12);
        fault("cart 1;draw 1;cart 1;", 2, 14);
        fault("draw 1;cart 1;draw 1;", 2, 14);
        good("draw 1;snap 1 of 1;cart 1;chirps 1;heat 1;");
    }

    private static void names() {
        fault("kind a;kind a;", 3, 12);
        fault("kind a;kind b;kind a", 3, 19);
        good("kind a;kind aa;kind b;");
        good("kind a;dealer a of a song 1;");
        fault("kind a;dealer d of a song 1;dealer d of a song 1;", 3, 35);
        fault("kind a;dealer d of a song 1;dealer d of b", 3, 35);
        fault("kind a;dealer d of b song 1;", 5, 19);
        fault("kind a;dealer d of b song 99;", 5, 19);
        fault("dealer d of a song 1;kind a;", 5, 12);
        fault("kind a;dealer d of d song 1;", 5, 19);
        String[] own = {"kind", "dealer", "of", "song", "age", "gold", "loads", "needs", "chirps",
            "heat", "snap", "cart", "draw", "or", "and", "not", "mates", "hour", "day"};
        for (String word : own) {
            fault("kind " + word + ";", 2, 5);
            good("kind " + word + "x;");
            fault("kind a;dealer " + word + " of a song 1;", 2, 14);
        }
        good("kind line;kind both;kind e;");
        good("kind abcdefgh;dealer d of abcdefgh song 1;");
        good("kind zz;kind az;kind za;");
        fault("kind za;kind az;kind za;", 3, 21);
    }

    private static void numbers() {
        String dealer = "kind a;dealer d of a song ";
        good(dealer + "9;");
        fault(dealer + "10;", 4, 26);
        good(dealer + "0 age 99 gold 9999 loads 99 needs 9;");
        fault(dealer + "0 age 100;", 4, 32);
        fault(dealer + "0 loads 100;", 4, 34);
        fault(dealer + "0 needs 10;", 4, 34);
        fault(dealer + "0 gold 10000;", 1, 33);
        good("snap 0 of 1;");
        good("snap 100 of 20;");
        fault("snap 101 of 20;", 4, 5);
        fault("snap 100 of 21;", 4, 12);
        fault("snap 100 of 0;", 4, 12);
        good("cart 1;");
        good("cart 9;");
        fault("cart 0;", 4, 5);
        fault("cart 10;", 4, 5);
        good("draw 0;");
        good("draw 999;");
        fault("draw 1000;", 4, 5);
        good("heat 9999;");
    }

    private static void formulas() {
        good("heat not 1 and not not 2 or 3 < 4 and 5 > 6 or 7 = 8;");
        good("chirps (1 or 2) * (heat < song) - (age = mates) % (hour > day) / 3;");
        good("heat song + age + mates + heat;");
        fault("heat;", 2, 4);
        fault("heat 1 2;", 2, 7);
        fault("heat 1+;", 2, 7);
        fault("heat -1;", 2, 5);
        fault("heat 1 < 2 < 3;", 2, 11);
        fault("heat 1 = not 2;", 2, 9);
        fault("heat 1 + not 2;", 2, 9);
        fault("heat not;", 2, 8);
        fault("heat 1 or;", 2, 9);
        fault("heat 1 and or 2;", 2, 11);
        fault("heat (1;", 2, 7);
        fault("heat 1);", 2, 6);
        fault("heat ();", 2, 6);
        fault("heat a;", 2, 5);
        fault("heat gold;", 2, 5);
        fault("heat 1 * * 2;", 2, 9);
        fault("heat 1", 2, 6);
        fault("heat (1 or 2", 2, 12);
        fault("heat 1 <> 2;", 2, 8);
    }

    private static String sum(int units) {
        StringBuilder text = new StringBuilder("1");
        for (int i = 1; i < units; i++) {
            text.append("+1");
        }
        return text.toString();
    }

    private static void units() {
        good("heat " + sum(30) + ";");
        fault("heat " + sum(31) + ";", 2, 65);
        good("heat " + sum(30) + ";chirps " + sum(30) + ";");
        fault("heat " + sum(30) + ";chirps " + sum(31) + ";", 2, 132);
        // A unit in brackets is a unit, too.
        good("heat (" + sum(29) + ");");
        fault("heat (" + sum(30) + ");", 2, 5 + 1 + 58);
        good("heat " + sum(28) + "+(1);");
        fault("heat " + sum(29) + "+(1);", 2, 5 + 58 + 1);
        fault("heat " + sum(30) + "+(1);", 2, 5 + 60);
        CHECK.due("units of both", 60, Texts.of("heat " + sum(30) + ";chirps " + sum(30) + ";")
            .about(12));
        CHECK.due("units of brackets", 5, Texts.of("heat ((1))+(hour);").about(12));
        CHECK.due("a long formula's worth", 30, Texts.of("heat " + sum(30) + ";").heat());
    }

    private static void nesting() {
        good("heat (((((((1)))))));");
        fault("heat ((((((((1))))))));", 2, 12);
        good("heat not not not not not not not 1;");
        fault("heat not not not not not not not not 1;", 2, 33);
        good("heat not (not (not (not 1)));");
        fault("heat not (not (not (not (1))));", 2, 24);
        fault("heat (not (not (not (not 1))));", 2, 21);
        good("heat (not (not (not (1))));");
        good("heat (((((((1)))))))+(((((((1)))))));");
        good("heat not not not not not not not 1 and not not not not not not not 0;");
        fault("heat 1 and (((((((not 1)))))));", 2, 18);
    }
}
