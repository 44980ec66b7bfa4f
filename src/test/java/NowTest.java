/** Promises 6 to 11: what is now, and how chirps and heat come of formulas. */
final class NowTest {
    private static final Check CHECK = new Check("NowTest");

    // Sung at heat 20: 21, 23, 27, so that prices are 22, 24, 25.
    private static final String THREE = "kind k;kind j;"
        + "dealer a of k song 1 age 2 gold 22 loads 5 needs 2;"
        + "dealer b of k song 3 gold 50 loads 9 needs 4;"
        + "dealer c of j song 7 age 99 gold 24 needs 3;";

    public static void main(String[] args) {
        dealer();
        heat();
        chirps();
        signs();
        wraps();
        mates();
        price();
        cheapest();
        chorus();
        lasts();
        CHECK.end();
    }

    private static void dealer() {
        CricketHay x = Texts.of(THREE);
        int[][] due = {{22, 5, 2, 0, 0, 1, 2, 0, 0, 21, 1}, {50, 9, 4, 0, 0, 3, 0, 0, 0, 23, 1},
            {24, 0, 3, 0, 1, 7, 99, 0, 0, 27, 0}};
        for (int d = 0; d < due.length; d++) {
            for (int what = 0; what <= 10; what++) {
                CHECK.due("dealer(" + d + ", " + what + ")", due[d][what], x.dealer(d, what));
            }
        }
        CHECK.due("dealer(0, 11)", -100, x.dealer(0, 11));
        CHECK.due("dealer(0, -1)", -100, x.dealer(0, -1));
        CHECK.due("dealer(3, 0)", -100, x.dealer(3, 0));
        CHECK.due("dealer(-1, 0)", -100, x.dealer(-1, 0));
        CHECK.due("dealer(most, 9)", -100, x.dealer(Integer.MAX_VALUE, 9));
        x.breathe(0, -4);
        CHECK.due("a BREATH", -4, x.dealer(0, 7));
        CHECK.due("CHIRPS by a BREATH", 17, x.dealer(0, 9));
        x.free(0);
        CHECK.due("who is FREE", 1, x.dealer(0, 8));
        CHECK.due("CHIRPS of a FREE one", 0, x.dealer(0, 9));
        CHECK.due("BREATH of a FREE one", -4, x.dealer(0, 7));
        CHECK.due("mates of a FREE one", 1, x.dealer(0, 10));
        CHECK.due("mates of its mate", 0, x.dealer(1, 10));
    }

    private static int heatOf(String formula) {
        return Texts.of("heat " + formula + ";").heat();
    }

    private static void heat() {
        CHECK.due("heat not told", 20, Texts.of("").heat());
        CHECK.due("heat 0", 0, heatOf("0"));
        CHECK.due("heat 40", 40, heatOf("40"));
        CHECK.due("heat 41", 40, heatOf("41"));
        CHECK.due("heat 0-1", 0, heatOf("0-1"));
        CHECK.due("others are 0", 7, heatOf("7+heat+song+age+mates"));
        CricketHay x = Texts.of("heat 10+hour*2-day*5;snap 100 of 3;");
        CHECK.due("heat at HOUR 0", 10, x.heat());
        x.hour();
        CHECK.due("heat at HOUR 1 by COLD 3", 9, x.heat());
        x.hour();
        CHECK.due("heat at HOUR 2 by COLD 5", 9, x.heat());
        x = Texts.of("heat 10+hour*2-day*5;");
        for (int i = 0; i < 24; i++) {
            x.hour();
        }
        CHECK.due("heat on day 1", 5, x.heat());
        // -2147483648 less a COLD of 1 comes round to the greatest int.
        x = Texts.of("heat 0-2048*1024*1024-hour+hour;snap 100 of 1;");
        CHECK.due("heat of the least int", 0, x.heat());
        CHECK.due("the least int less COLD", 40, x.hour());
    }

    private static int sung(String formula, int song, int age) {
        return Texts.of("kind k;dealer a of k song " + song + " age " + age + ";heat 15;chirps "
            + formula + ";").dealer(0, 9);
    }

    private static void chirps() {
        CHECK.due("chirps not told", 29, Texts.of("kind k;dealer a of k song 9;").chorus());
        CHECK.due("chirps heat", 15, sung("heat", 4, 33));
        CHECK.due("chirps song", 4, sung("song", 4, 33));
        CHECK.due("chirps age", 33, sung("age", 4, 33));
        CHECK.due("chirps 99", 99, sung("99", 0, 0));
        CHECK.due("chirps 100", 99, sung("100", 0, 0));
        CHECK.due("chirps below 0", 0, sung("song-age", 4, 33));
        CricketHay x = Texts.of("kind k;dealer a of k song 1;heat 38;chirps heat;");
        x.breathe(0, 5);
        CHECK.due("heat and BREATH above 40", 40, x.dealer(0, 9));
        x = Texts.of("kind k;dealer a of k song 1;heat 3;chirps heat+10;");
        x.breathe(0, -5);
        CHECK.due("heat and BREATH below 0", 10, x.dealer(0, 9));
        x = Texts.of("kind k;dealer a of k song 1;heat 100;chirps heat;");
        x.breathe(0, -5);
        CHECK.due("BREATH is less than a HEAT already cut", 35, x.dealer(0, 9));
        x = Texts.of("kind k;dealer a of k song 1;chirps hour+day*50;");
        for (int i = 0; i < 25; i++) {
            x.hour();
        }
        CHECK.due("chirps by hour and day", 51, x.dealer(0, 9));
    }

    private static void signs() {
        String[] formulas = {"7/2", "(0-7)/2+50", "7%4", "(0-7)%4+50", "7/0+3", "7%0+3",
            "10-3-2", "10-(3-2)", "2+3*4", "(2+3)*4", "40/4/2", "40/(4/2)", "9%5*2", "50-7/2*2",
            "1<2", "2<1", "2<2", "2>1", "1>2", "2>2", "2=2", "1=2", "1+1=2", "3<1+3",
            "2 and 3", "2 and 0", "0 and 2", "0 and 0", "2 or 3", "0 or 3", "3 or 0", "0 or 0",
            "not 0", "not 5", "not not 5", "not 1=2", "(not 1)=0", "not 0 and 0", "not (0 and 0)",
            "1 or 0 and 0", "(1 or 0) and 0", "0 and 0 or 1", "5", "(5)+(2 and 7)", "(0-3 and 5)",
            "(0-3)<2", "not (0-3)", "2 or 0 and 3"};
        int[] due = {3, 47, 3, 47, 3, 3,
            5, 9, 14, 20, 5, 20, 8, 44,
            1, 0, 0, 1, 0, 0, 1, 0, 1, 1,
            1, 0, 0, 0, 1, 1, 1, 0,
            1, 0, 1, 1, 1, 0, 1,
            1, 0, 1, 5, 6, 1,
            1, 0, 1};
        CHECK.due("as many answers as formulas", formulas.length, due.length);
        for (int i = 0; i < formulas.length; i++) {
            CHECK.due("chirps " + formulas[i], due[i], sung(formulas[i], 1, 1));
        }
    }

    private static void wraps() {
        int product = 9999 * 9999 * 9999;
        CHECK.due("a product that wraps", product < 0 ? 1 : 0, sung("9999*9999*9999<0", 1, 1));
        CHECK.due("its rest", Math.abs(product % 89), sung("9999*9999*9999%89", 1, 1)
            + sung("0-9999*9999*9999%89", 1, 1));
        CHECK.due("a sum that wraps", 1, sung("2048*1024*1023+2048*1024<0", 1, 1));
        CHECK.due("a difference that wraps", 1, sung("0-2048*1024*1024-1>0", 1, 1));
        CHECK.due("the least int by -1", 1, sung("2048*1024*1024/(0-1)<0", 1, 1));
        CHECK.due("its rest by -1", 0, sung("2048*1024*1024%(0-1)", 1, 1));
    }

    private static void mates() {
        CricketHay x = Texts.of("kind k;kind j;dealer a of k song 1;dealer b of j song 1;"
            + "dealer c of k song 1;dealer d of k song 1;chirps mates*10+1;");
        int[] due = {21, 1, 21, 21};
        for (int i = 0; i < due.length; i++) {
            CHECK.due("chirps by mates of " + i, due[i], x.dealer(i, 9));
        }
        x.free(2);
        CHECK.due("chirps by fewer mates", 11, x.dealer(0, 9));
        CHECK.due("mates", 1, x.dealer(0, 10));
        CHECK.due("mates of the FREE one", 2, x.dealer(2, 10));
    }

    private static void price() {
        CricketHay x = Texts.of(THREE);
        CHECK.due("price(0, 1)", 22, x.price(0, 1));
        CHECK.due("price(1, 0)", 22, x.price(1, 0));
        CHECK.due("price(0, 2)", 24, x.price(0, 2));
        CHECK.due("price(1, 2)", 25, x.price(1, 2));
        CHECK.due("price(1, 1)", -1, x.price(1, 1));
        CHECK.due("price(0, 3)", -1, x.price(0, 3));
        CHECK.due("price(3, 0)", -1, x.price(3, 0));
        CHECK.due("price(-1, 0)", -1, x.price(-1, 0));
        CHECK.due("price(0, -1)", -1, x.price(0, -1));
        x.breathe(0, 1);
        CHECK.due("22 and 23, halved and cut", 22, x.price(0, 1));
        x.free(0);
        CHECK.due("none and 23, halved and cut", 11, x.price(0, 1));
    }

    private static void cheapest() {
        CricketHay x = Texts.of(THREE);
        CHECK.due("cheapest(0), whose gold just does", 1, x.cheapest(0));
        CHECK.due("cheapest(1)", 0, x.cheapest(1));
        CHECK.due("cheapest(2)", 0, x.cheapest(2));
        CHECK.due("cheapest(3)", -1, x.cheapest(3));
        CHECK.due("cheapest(-1)", -1, x.cheapest(-1));
        x.breathe(0, 2);
        CHECK.due("cheapest(0), whose gold no longer does", -1, x.cheapest(0));
        x.breathe(0, -2);
        x.breathe(1, -5);
        CHECK.due("cheapest(2), now of the second one", 1, x.cheapest(2));
        x = Texts.of("kind k;dealer a of k song 1 gold 99;dealer b of k song 0;"
            + "dealer c of k song 5 loads 1;dealer d of k song 4 loads 1;"
            + "dealer e of k song 3 loads 1;dealer f of k song 9 loads 1;");
        CHECK.due("of like ones the first", 3, x.cheapest(0));
        CHECK.due("nobody's gold but the first one's", -1, x.cheapest(1));
        x = Texts.of("kind k;dealer a of k song 1 gold 99 loads 5;dealer b of k song 0;");
        CHECK.due("none has a load", -1, x.cheapest(0));
    }

    private static void chorus() {
        CricketHay x = Texts.of(THREE);
        CHECK.due("chorus()", 71, x.chorus());
        x.free(1);
        CHECK.due("chorus() without one", 48, x.chorus());
    }

    private static void lasts() {
        CricketHay x = Texts.of(THREE + "dealer d of k song 0 loads 9;"
            + "dealer e of k song 0 loads 8 needs 4;dealer f of k song 0 loads 7 needs 4;");
        int[] due = {2, 2, 0, -1, 2, 1};
        for (int i = 0; i < due.length; i++) {
            CHECK.due("lasts(" + i + ")", due[i], x.lasts(i));
        }
        CHECK.due("lasts of one a day", 3,
            Texts.of("kind k;dealer a of k song 1 loads 3 needs 1;").lasts(0));
        CHECK.due("lasts(6)", -1, x.lasts(6));
        CHECK.due("lasts(-1)", -1, x.lasts(-1));
        for (int i = 0; i < 24; i++) {
            x.hour();
        }
        CHECK.due("lasts(0) a day on", 1, x.lasts(0));
    }
}
