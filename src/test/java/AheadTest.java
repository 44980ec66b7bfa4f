/** Promises 18 to 21 and 24 to 26: what hours bring, plans, and what else would be. */
final class AheadTest {
    private static final Check CHECK = new Check("AheadTest");

    // Both sing the same; the price at HOUR h is 10 * h % 7 + 2.
    private static final String ZIGZAG = "kind k;dealer a of k song 1 gold 5;"
        + "dealer b of k song 2;chirps 10*hour%7+2;cart 4;";

    public static void main(String[] args) {
        will();
        willByBreath();
        willBySeed();
        lowAndHigh();
        plan();
        planOfLikeOnes();
        planRefused();
        spoils();
        starve();
        hush();
        nothingIsDone();
        CHECK.end();
    }

    private static void will() {
        CricketHay x = Texts.of(ZIGZAG);
        int[] due = {2, 5, 8, 4, 7, 3, 6, 2};
        for (int n = 0; n < due.length; n++) {
            CHECK.due("will(0, 1, " + n + ")", due[n], x.will(0, 1, n));
            CHECK.due("will(1, 0, " + n + ")", due[n], x.will(1, 0, n));
        }
        CHECK.due("will(0, 1, 60), HOUR 12", 120 % 7 + 2, x.will(0, 1, 60));
        int[][] wrong = {{0, 1, 61}, {0, 1, -1}, {0, 0, 1}, {0, 2, 1}, {2, 0, 1}, {-1, 0, 1},
            {0, -1, 1}, {0, 1, Integer.MAX_VALUE}, {0, 1, Integer.MIN_VALUE}};
        for (int[] w : wrong) {
            String call = "(" + w[0] + ", " + w[1] + ", " + w[2] + ")";
            CHECK.due("will" + call, -1, x.will(w[0], w[1], w[2]));
            CHECK.due("low" + call, -1, x.low(w[0], w[1], w[2]));
            CHECK.due("high" + call, -1, x.high(w[0], w[1], w[2]));
        }
        x = Texts.of("kind k;dealer a of k song 1 age 5;dealer b of k song 1 age 98;chirps age;");
        CHECK.due("ages behind 23 hours", 103 / 2, x.will(0, 1, 23));
        CHECK.due("ages behind 24 hours", (6 + 99) / 2, x.will(0, 1, 24));
        CHECK.due("ages behind 48 hours", (7 + 99) / 2, x.will(0, 1, 48));
    }

    private static void willByBreath() {
        CricketHay x = Texts.of("kind k;dealer a of k song 1;dealer b of k song 1;");
        x.breathe(0, 4);
        CHECK.due("will by a BREATH now", 23, x.will(0, 1, 0));
        CHECK.due("will, BREATHS gone", 21, x.will(0, 1, 1));
        CHECK.due("the BREATH is there still", 4, x.dealer(0, 7));
    }

    private static void willBySeed() {
        // Seeds from 9: 304, 719, 574, 709, 204: snaps behind hours 1, 4 and 5.
        CricketHay x = Texts.of("kind k;dealer a of k song 0;dealer b of k song 0;"
            + "heat 40;snap 10 of 10;draw 9;");
        int[] due = {40, 30, 31, 32, 23, 14};
        for (int n = 0; n < due.length; n++) {
            CHECK.due("will by snaps behind " + n, due[n], x.will(0, 1, n));
        }
        CHECK.due("the SEED is as it was", 9, x.about(5));
    }

    private static void lowAndHigh() {
        CricketHay x = Texts.of(ZIGZAG);
        int[] lows = {0, 0, 0, 0, 0, 0, 0, 0, 0};
        int[] highs = {0, 1, 2, 2, 2, 2, 2, 2, 2};
        for (int n = 0; n < lows.length; n++) {
            CHECK.due("low(0, 1, " + n + ")", lows[n], x.low(0, 1, n));
            CHECK.due("high(0, 1, " + n + ")", highs[n], x.high(0, 1, n));
        }
        x.hour();
        CHECK.due("low from HOUR 1, one hour", 0, x.low(0, 1, 1));
        CHECK.due("low from HOUR 1, 5 hours", 4, x.low(0, 1, 5));
        CHECK.due("low from HOUR 1, 6 hours", 6, x.low(0, 1, 6));
        CHECK.due("low from HOUR 1, 60 hours, of like ones", 6, x.low(0, 1, 60));
        CHECK.due("high from HOUR 1, 60 hours", 1, x.high(0, 1, 60));
        x = Texts.of("kind k;dealer a of k song 0;dealer b of k song 0;chirps day*24+hour;");
        CHECK.due("high at the end", 60, x.high(0, 1, 60));
        CHECK.due("low at the start", 0, x.low(0, 1, 60));
    }

    private static void plan() {
        CricketHay x = Texts.of(ZIGZAG);
        CHECK.due("plan(0, 1, 1, 1)", 2, x.plan(0, 1, 1, 1));
        CHECK.lies("one of one", x, 1);
        CHECK.due("plan(0, 1, 4, 1)", 8, x.plan(0, 1, 4, 1));
        CHECK.lies("four of one", x, 4);
        CHECK.due("plan(0, 1, 9, 6)", 4 * 2 + 4 * 3 + 4, x.plan(0, 1, 9, 6));
        CHECK.lies("nine of six", x, 4, 0, 0, 1, 0, 4);
        CHECK.due("plan(0, 1, 20, 12)", 4 * (2 + 2 + 3 + 4 + 4), x.plan(0, 1, 20, 12));
        // Prices at HOURS 0 to 11: 2 5 8 4 7 3 6 2 5 8 4 7.
        CHECK.lies("twenty of twelve", x, 4, 0, 0, 4, 0, 4, 0, 4, 0, 0, 4, 0);
        x.plan(0, 1, 1, 12);
        CHECK.due("a cheaper hour beyond does not count", 4 * 2 + 4, x.plan(0, 1, 5, 5));
        CHECK.lies("five of five", x, 4, 0, 0, 1, 0);
        CHECK.due("plan(0, 1, 8, 2), all that the cart takes", 28, x.plan(0, 1, 8, 2));
        CHECK.lies("eight of two", x, 4, 4);
    }

    private static void planOfLikeOnes() {
        CricketHay x = Texts.of("kind k;dealer a of k song 1;dealer b of k song 2;chirps 6;cart 9;");
        CHECK.due("all alike", 66, x.plan(0, 1, 11, 5));
        CHECK.lies("all alike", x, 9, 2, 0, 0, 0);
        x = Texts.of("kind k;dealer a of k song 1;dealer b of k song 2;chirps (hour=0)+hour%2+1;");
        // Prices 2 2 1 2 1 2 with a cart of 3.
        CHECK.due("two prices", 6 + 4, x.plan(0, 1, 8, 6));
        CHECK.lies("two prices", x, 2, 0, 3, 0, 3, 0);
        CHECK.due("two prices, less", 5, x.plan(0, 1, 5, 6));
        CHECK.lies("two prices, less", x, 0, 0, 3, 0, 2, 0);
        CHECK.due("two prices, more", 6 + 2 * 4, x.plan(0, 1, 10, 6));
        CHECK.lies("two prices, more", x, 3, 1, 3, 0, 3, 0);
    }

    private static void planRefused() {
        CricketHay x = Texts.of(ZIGZAG);
        int[][] wrong = {{0, 1, 9, 2}, {0, 1, 0, 2}, {0, 1, -1, 2}, {0, 1, 21, 12}, {0, 1, 1, 0},
            {0, 1, 1, 13}, {0, 1, 1, -1}, {0, 0, 1, 1}, {0, 2, 1, 1}, {2, 0, 1, 1}, {-1, 0, 1, 1},
            {0, 1, Integer.MIN_VALUE, Integer.MAX_VALUE}};
        for (int[] w : wrong) {
            x.plan(0, 1, 1, 3);
            String call = "plan(" + w[0] + ", " + w[1] + ", " + w[2] + ", " + w[3] + ")";
            CHECK.due(call, -1, x.plan(w[0], w[1], w[2], w[3]));
            CHECK.lies(call, x);
        }
    }

    private static void spoils() {
        CricketHay x = Texts.of("kind k;kind j;dealer a of k song 1;dealer b of k song 3;"
            + "dealer c of j song 7;");
        // Prices 22, 24, 25; without the first one 11, 13, 25.
        CHECK.due("spoils(0)", 71 - 49, x.spoils(0));
        CHECK.due("spoils(1)", 71 - (10 + 24 + 13), x.spoils(1));
        CHECK.due("spoils(2)", 71 - (22 + 10 + 11), x.spoils(2));
        CHECK.due("spoils(3)", -1000000, x.spoils(3));
        CHECK.due("spoils(-1)", -1000000, x.spoils(-1));
        CHECK.due("he has it still", 0, x.dealer(0, 8));
        x.free(0);
        CHECK.due("spoils(0) of a FREE one", -1000000, x.spoils(0));
        CHECK.due("spoils(1) then", 49 - (0 + 13 + 13), x.spoils(1));
        x = Texts.of("kind k;dealer a of k song 0;dealer b of k song 0;dealer c of k song 0;"
            + "chirps 30-mates*14;");
        // Prices 2, 2, 2; without one its mates sing 16 each: 8, 8, 16.
        CHECK.due("spoils below 0", 6 - 32, x.spoils(1));
    }

    private static void starve() {
        CricketHay x = Texts.of("kind k;dealer a of k song 1 loads 5 needs 2;"
            + "dealer b of k song 3 loads 1 needs 4;dealer c of k song 7 loads 9;");
        int[] hours = {0, 1, 23, 24, 47, 48, 60};
        int[] due = {0, 0, 0, 3, 3, 7, 7};
        for (int i = 0; i < hours.length; i++) {
            CHECK.due("starve(" + hours[i] + ")", due[i], x.starve(hours[i]));
        }
        CHECK.due("starve(61)", -1, x.starve(61));
        CHECK.due("starve(-1)", -1, x.starve(-1));
        for (int i = 0; i < 24; i++) {
            x.hour();
        }
        CHECK.due("starve(0) a day on", 3, x.starve(0));
        CHECK.due("starve(48) a day on", 3 + 4 + 1 + 4, x.starve(48));
    }

    private static void hush() {
        CricketHay x = Texts.of("kind k;dealer a of k song 1;dealer b of k song 2;"
            + "chirps 99-day*30-hour;");
        CHECK.due("hush(198)", 0, x.hush(198));
        CHECK.due("hush(594)", 0, x.hush(594));
        CHECK.due("hush(197)", 1, x.hush(197));
        CHECK.due("hush(196)", 1, x.hush(196));
        CHECK.due("hush(195)", 2, x.hush(195));
        CHECK.due("hush(138)", 24, x.hush(138));
        CHECK.due("hush(54), at the end", 60, x.hush(54));
        CHECK.due("hush(53), beyond", -1, x.hush(53));
        CHECK.due("hush(0)", -1, x.hush(0));
        CHECK.due("hush(-1)", -1, x.hush(-1));
        CHECK.due("hush(595)", -1, x.hush(595));
        x.free(0);
        x.free(1);
        CHECK.due("hush(0) of FREE ones", 0, x.hush(0));
    }

    private static void nothingIsDone() {
        CricketHay x = Texts.of(ZIGZAG + "snap 100 of 3;");
        x.breathe(0, 2);
        x.will(0, 1, 60);
        x.low(0, 1, 60);
        x.high(0, 1, 60);
        x.plan(0, 1, 3, 12);
        x.spoils(0);
        x.starve(60);
        x.hush(0);
        x.mean(0, 1, 3, 0);
        x.odds(0, 1, 3, 4, 0);
        x.rest(0, 1, 2);
        int[] about = {2, 1, 4, 0, 0, 0, 0, 1, 0};
        for (int i = 0; i < about.length; i++) {
            CHECK.due("looked ahead: about(" + i + ")", about[i], x.about(i));
        }
        CHECK.due("the BREATH", 2, x.dealer(0, 7));
        CHECK.due("the gold", 5, x.dealer(0, 0));
        CHECK.due("the age", 0, x.dealer(0, 6));
        CHECK.due("who is FREE", 0, x.dealer(0, 8));
    }
}
