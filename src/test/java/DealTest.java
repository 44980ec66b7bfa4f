/** Promises 22, 23, 27 to 30 and 33: gains, clearing, chances, rest, laws, what lies there. */
final class DealTest {
    private static final Check CHECK = new Check("DealTest");

    public static void main(String[] args) {
        gain();
        gainFromLast();
        gainOfLikeOnes();
        gainRefused();
        clear();
        clearOfLikeOnes();
        clearMostFirst();
        clearRefused();
        mean();
        odds();
        chanceRefused();
        rest();
        restElsewhere();
        restRefused();
        law();
        liesStay();
        CHECK.end();
    }

    /** Dealers of one kind, whose crickets chirp as often as their age tells. */
    private static String dealer(String name, int chirps, int gold, int loads, int needs) {
        return "dealer " + name + " of k song 1 age " + chirps + " gold " + gold + " loads "
            + loads + " needs " + needs + ";";
    }

    private static CricketHay market(String... dealers) {
        return Texts.of("kind k;chirps age;" + String.join("", dealers));
    }

    private static void gain() {
        CricketHay x = market(dealer("a", 10, 20, 1, 0), dealer("b", 20, 99, 1, 0),
            dealer("c", 30, 99, 0, 0), dealer("d", 90, 49, 0, 0));
        // Of a: b at 15 to c at 20; d has not his 50.
        CHECK.due("gain(0)", 5, x.gain(0));
        CHECK.lies("gain(0)", x, 1, 2);
        // Of b: a at 15 to c at 25.
        CHECK.due("gain(1)", 10, x.gain(1));
        CHECK.lies("gain(1)", x, 0, 2);
        // Of c: a at 20 to b at 25.
        CHECK.due("gain(2)", 5, x.gain(2));
        CHECK.lies("gain(2)", x, 0, 1);
        CHECK.due("gain(2) by the first one, too", 25 - 20, x.gain(2));
        CHECK.due("gain(3), whose gold does not do", -1000, x.gain(3));
        CHECK.lies("gain(3)", x);
        x = market(dealer("a", 10, 20, 0, 0), dealer("b", 30, 99, 1, 0),
            dealer("c", 10, 99, 0, 0));
        CHECK.due("gain(0) with a loss", -10, x.gain(0));
        CHECK.lies("a loss", x, 1, 2);
        x = market(dealer("a", 10, 19, 0, 0), dealer("b", 30, 99, 1, 0),
            dealer("c", 10, 99, 0, 0));
        CHECK.due("gain(0) without the gold", -1000, x.gain(0));
        CHECK.lies("without the gold", x);
    }

    private static void gainFromLast() {
        CricketHay x = market(dealer("a", 60, 99, 0, 0), dealer("b", 20, 99, 0, 0),
            dealer("c", 10, 99, 1, 0));
        CHECK.due("gain(1), of the last to the first", 40 - 15, x.gain(1));
        CHECK.lies("of the last to the first", x, 2, 0);
    }

    private static void gainOfLikeOnes() {
        CricketHay x = market(dealer("a", 10, 99, 9, 0), dealer("b", 20, 99, 1, 0),
            dealer("c", 20, 99, 1, 0), dealer("d", 30, 99, 0, 0), dealer("e", 30, 99, 0, 0));
        CHECK.due("gain of like ones", 5, x.gain(0));
        CHECK.lies("of like ones", x, 1, 3);
        x = market(dealer("a", 10, 99, 9, 0), dealer("b", 20, 14, 1, 0),
            dealer("c", 20, 15, 1, 0));
        CHECK.due("gain where one can't pay", 0, x.gain(0));
        CHECK.lies("where one can't pay", x, 1, 2);
    }

    private static void gainRefused() {
        CricketHay x = market(dealer("a", 10, 99, 1, 0), dealer("b", 20, 99, 1, 0));
        CHECK.due("gain of two alone", -1000, x.gain(0));
        x = market(dealer("a", 10, 99, 1, 0), dealer("b", 20, 99, 0, 0),
            dealer("c", 20, 99, 0, 0));
        CHECK.due("gain where no other one has a load", -1000, x.gain(0));
        x.gain(1);
        CHECK.due("something lies there", 2, x.about(13));
        CHECK.due("gain(3)", -1000, x.gain(3));
        CHECK.lies("gain(3)", x);
        x.gain(1);
        CHECK.due("gain(-1)", -1000, x.gain(-1));
        CHECK.lies("gain(-1)", x);
    }

    private static void clear() {
        CricketHay x = market(dealer("a", 10, 99, 1, 3), dealer("b", 20, 99, 5, 4),
            dealer("c", 30, 99, 9, 0), dealer("d", 40, 99, 0, 0));
        CHECK.due("clear(0)", 1, x.clear(0));
        CHECK.lies("clear(0)", x, 1, -1, -1, -1);
        CHECK.due("clear(1)", 15, x.clear(1));
        CHECK.lies("clear(1)", x, 1, -1, -1, -1);
        // Both need, b has only one over, so one of them takes it of c at more.
        x = market(dealer("a", 10, 99, 0, 1), dealer("b", 20, 99, 1, 0),
            dealer("c", 30, 99, 5, 0), dealer("d", 40, 99, 0, 1));
        CHECK.due("two loads", 2, x.clear(0));
        CHECK.due("what is paid", 15 + 35, x.clear(1));
        CHECK.lies("two loads", x, 1, -1, -1, 2);
        x = market(dealer("a", 10, 14, 0, 1), dealer("b", 20, 99, 9, 0));
        CHECK.due("without the gold", 0, x.clear(0));
        CHECK.due("nothing is paid", 0, x.clear(1));
        CHECK.lies("without the gold", x, -1, -1);
        x = market(dealer("a", 10, 15, 0, 1), dealer("b", 20, 99, 9, 0));
        CHECK.due("with just the gold", 1, x.clear(0));
        x = market(dealer("a", 10, 99, 0, 1), dealer("b", 20, 99, 4, 4));
        CHECK.due("none over", 0, x.clear(0));
        x = market(dealer("a", 20, 99, 9, 0), dealer("b", 10, 15, 0, 1));
        CHECK.due("of the first one", 1, x.clear(0));
        CHECK.lies("of the first one", x, -1, 0);
        x = market(dealer("a", 10, 99, 4, 4), dealer("b", 20, 99, 9, 4));
        CHECK.due("none in need", 0, x.clear(0));
        CHECK.lies("none in need", x, -1, -1);
        CHECK.due("nobody at all", 0, Texts.of("").clear(0));
        CHECK.due("of loads as they are", 9, x.dealer(1, 1));
    }

    private static void clearOfLikeOnes() {
        CricketHay x = market(dealer("a", 10, 99, 0, 1), dealer("b", 20, 99, 1, 0),
            dealer("c", 20, 99, 1, 0), dealer("d", 10, 99, 0, 1));
        CHECK.due("alike", 2, x.clear(0));
        CHECK.lies("alike", x, 1, -1, -1, 2);
        // One load for two: the first plan lets the first one go without.
        x = market(dealer("a", 10, 99, 0, 1), dealer("b", 20, 99, 1, 0),
            dealer("c", 10, 99, 0, 1));
        CHECK.due("one for two", 1, x.clear(0));
        CHECK.lies("one for two", x, -1, -1, 1);
        x = market(dealer("a", 9, 99, 0, 1), dealer("b", 21, 99, 1, 0),
            dealer("c", 11, 99, 0, 1));
        CHECK.due("one for two, the cheaper one", 15, x.clear(1));
        CHECK.lies("one for two, the cheaper one", x, 1, -1, -1);
    }

    private static void clearMostFirst() {
        // a can pay only b, who is cheaper for d, too: most are sold if d goes to c.
        CricketHay x = market(dealer("a", 10, 15, 0, 2), dealer("b", 20, 0, 3, 2),
            dealer("c", 60, 0, 3, 2), dealer("d", 2, 99, 0, 9));
        CHECK.due("most", 2, x.clear(0));
        CHECK.due("paid", 15 + 31, x.clear(1));
        CHECK.lies("most", x, 1, -1, -1, 2);
        x = market(dealer("a", 10, 99, 0, 1), dealer("b", 10, 99, 0, 1),
            dealer("c", 10, 99, 0, 1), dealer("d", 10, 99, 0, 1), dealer("e", 10, 0, 3, 1),
            dealer("f", 8, 0, 2, 1));
        CHECK.due("three of four", 3, x.clear(0));
        CHECK.due("three of four are paid", 10 + 10 + 9, x.clear(1));
        CHECK.lies("three of four", x, -1, 4, 4, 5, -1, -1);
    }

    private static void clearRefused() {
        CricketHay x = market(dealer("a", 10, 99, 0, 1), dealer("b", 20, 99, 1, 0));
        x.clear(0);
        CHECK.due("clear(2)", -1, x.clear(2));
        CHECK.lies("clear(2)", x);
        x.clear(0);
        CHECK.due("clear(-1)", -1, x.clear(-1));
        CHECK.lies("clear(-1)", x);
    }

    // Heat 30, each snap 4 of it: a price of 30 less the COLD.
    private static final String COLD = "kind k;dealer a of k song 0;dealer b of k song 0;heat 30;";

    private static void mean() {
        CricketHay x = Texts.of(COLD + "snap 25 of 4;");
        int[][] due = {{30, 1}, {29, 1}};
        for (int n = 0; n < due.length; n++) {
            CHECK.due("mean upper behind " + n, due[n][0], x.mean(0, 1, n, 0));
            CHECK.due("mean lower behind " + n, due[n][1], x.mean(0, 1, n, 1));
        }
        // Two hours: COLD 0, 4, 3, 7 by 9, 3, 3, 1 of 16: 30 less 28 / 16 = 30 - 7/4.
        CHECK.due("mean upper behind 2", 113, x.mean(0, 1, 2, 0));
        CHECK.due("mean lower behind 2", 4, x.mean(0, 1, 2, 1));
        // Three: 0 4 3 7 2 6 6 10 (first snap, second, third as bits 4, 2, 1) by 27 9 9 3 9 3 3 1.
        int sum = 9 * 4 + 9 * 3 + 3 * 7 + 9 * 2 + 3 * 6 + 3 * 6 + 10;
        CHECK.due("64 parts of 3 hours", 148, sum);
        CHECK.due("mean upper behind 3", (30 * 64 - 148) / 4, x.mean(0, 1, 3, 0));
        CHECK.due("mean lower behind 3", 16, x.mean(0, 1, 3, 1));
        x = Texts.of(COLD + "snap 100 of 4;");
        CHECK.due("mean of a sure snap", 26, x.mean(0, 1, 1, 0));
        CHECK.due("mean of sure snaps", 20, x.mean(0, 1, 3, 0));
        x = Texts.of(COLD + "snap 0 of 4;");
        CHECK.due("mean of no snap", 30, x.mean(0, 1, 3, 0));
        CHECK.due("mean of no snap, lower", 1, x.mean(0, 1, 3, 1));
        x = Texts.of("kind k;dealer a of k song 0;dealer b of k song 0;chirps 0;snap 50 of 2;");
        CHECK.due("mean of nothing", 0, x.mean(0, 1, 3, 0));
        CHECK.due("mean of nothing, lower", 1, x.mean(0, 1, 3, 1));
        x = Texts.of("kind k;dealer a of k song 0;dealer b of k song 0;chirps 99-heat%2;"
            + "snap 1 of 1;");
        // The COLD of a snap by 1 is gone an hour later: only the last hour's counts.
        CHECK.due("mean by 1 of 100", 99 * 99 + 98, x.mean(0, 1, 1, 0));
        CHECK.due("mean by 1 of 100, lower", 100, x.mean(0, 1, 1, 1));
        CHECK.due("mean behind 3 by 1 of 100", 99 * 99 + 98, x.mean(0, 1, 3, 0));
        CHECK.due("mean behind 3 by 1 of 100, lower", 100, x.mean(0, 1, 3, 1));
    }

    private static void odds() {
        CricketHay x = Texts.of(COLD + "snap 25 of 4;");
        CHECK.due("odds of 30 now", 1, x.odds(0, 1, 30, 0, 0));
        CHECK.due("odds of 30 now, lower", 1, x.odds(0, 1, 30, 0, 1));
        CHECK.due("odds of 31 now", 0, x.odds(0, 1, 31, 0, 0));
        CHECK.due("odds of 31 now, lower", 1, x.odds(0, 1, 31, 0, 1));
        // Two hours: COLD 0, 4, 3, 7 by 9, 3, 3, 1 of 16.
        int[] prices = {30, 28, 27, 26, 24, 23, 22, 31, 0, -5, Integer.MIN_VALUE,
            Integer.MAX_VALUE};
        int[] upper = {9, 9, 3, 15, 15, 1, 1, 0, 1, 1, 1, 0};
        int[] lower = {16, 16, 4, 16, 16, 1, 1, 1, 1, 1, 1, 1};
        for (int i = 0; i < prices.length; i++) {
            CHECK.due("odds of " + prices[i] + " behind 2", upper[i], x.odds(0, 1, prices[i], 2, 0));
            CHECK.due("odds of " + prices[i] + " behind 2, lower", lower[i],
                x.odds(0, 1, prices[i], 2, 1));
        }
        CHECK.due("odds of no snap in 4", 81, x.odds(0, 1, 30, 4, 0));
        CHECK.due("odds of no snap in 4, lower", 256, x.odds(0, 1, 30, 4, 1));
        x = Texts.of(COLD + "snap 1 of 4;");
        CHECK.due("odds of no snap by 1 of 100", 96059601, x.odds(0, 1, 30, 4, 0));
        CHECK.due("odds of no snap by 1 of 100, lower", 100000000, x.odds(0, 1, 30, 4, 1));
        x = Texts.of(COLD + "snap 100 of 4;draw 5;");
        CHECK.due("odds of a sure snap", 0, x.odds(0, 1, 30, 1, 0));
        CHECK.due("odds of less by a sure snap", 1, x.odds(0, 1, 26, 1, 0));
        // A BREATH is gone behind an hour, and a day may begin.
        x = Texts.of("kind k;dealer a of k song 0;dealer b of k song 0;chirps heat+50*day;");
        x.breathe(0, 4);
        CHECK.due("odds by a BREATH", 1, x.odds(0, 1, 22, 0, 0));
        CHECK.due("odds, BREATHS gone", 0, x.odds(0, 1, 22, 1, 0));
        for (int i = 0; i < 22; i++) {
            x.hour();
        }
        CHECK.due("odds ahead of the day", 0, x.odds(0, 1, 50, 1, 0));
        CHECK.due("odds behind the day's beginning", 1, x.odds(0, 1, 50, 2, 0));
    }

    private static void chanceRefused() {
        CricketHay x = Texts.of(COLD + "chirps heat/10;");
        int[][] wrong = {{0, 1, 4, 0}, {0, 1, -1, 0}, {0, 1, 1, 2}, {0, 1, 1, -1}, {0, 0, 1, 0},
            {0, 2, 1, 0}, {2, 0, 1, 0}, {-1, 0, 1, 0}, {0, 1, Integer.MAX_VALUE, 0}};
        for (int[] w : wrong) {
            String call = "(" + w[0] + ", " + w[1] + ", .. " + w[2] + ", " + w[3] + ")";
            CHECK.due("mean" + call, -1, x.mean(w[0], w[1], w[2], w[3]));
            int n = w[2] == 4 ? 5 : w[2];
            CHECK.due("odds" + call, -1, x.odds(w[0], w[1], 1, n, w[3]));
        }
    }

    private static void rest() {
        // Prices change by a half of each BREATH, so a load is worth no breath, nine are.
        CricketHay x = Texts.of("kind k;dealer a of k song 0;dealer b of k song 0;");
        CHECK.due("rest for a load", 1, x.rest(0, 1, 1));
        CHECK.lies("rest for a load", x, 0, 0);
        // Three loads cost 3 more by each step up: the buyer may go down, the seller up, or not.
        x = Texts.of("kind k;dealer a of k song 0;dealer b of k song 0;chirps heat*2;");
        CHECK.due("rest for three loads", 9, x.rest(0, 1, 3));
        CHECK.lies("rest for three loads", x, -2, 0);
        CHECK.due("rest for two loads", 1, x.rest(0, 1, 2));
        CHECK.lies("rest for two loads", x, 0, 0);
        CHECK.due("rest for four loads", 1, x.rest(0, 1, 4));
        CHECK.lies("rest for four loads", x, -2, 2);
        x.breathe(0, 5);
        CHECK.due("rest in place of a BREATH", 1, x.rest(0, 1, 4));
        CHECK.lies("rest in place of a BREATH", x, -2, 2);
        CHECK.due("rest, the other way", 1, x.rest(1, 0, 4));
        CHECK.lies("rest, the other way", x, -2, 2);
        // The nine loads are more than the cart takes, which does not matter.
        CHECK.due("rest for nine loads", 1, x.rest(0, 1, 9));
        // Warmth above 20 makes either sing 40: the seller's first step pays, the buyer's does not.
        x = Texts.of("kind k;dealer a of k song 0;dealer b of k song 1;"
            + "chirps (heat>20)*(1-song)*40+(heat>20)*song*40;");
        CHECK.due("rest where warmth sings", 1, x.rest(0, 1, 1));
        CHECK.lies("rest where warmth sings", x, 0, 1);
    }

    private static void restElsewhere() {
        // Who is colder sings more: the buyer goes up, the seller down.
        CricketHay x = Texts.of("kind k;dealer a of k song 0;dealer b of k song 0;"
            + "chirps 99-heat*2;");
        CHECK.due("rest where cold sings", 1, x.rest(0, 1, 5));
        CHECK.lies("rest where cold sings", x, 2, -2);
        CHECK.due("rest where cold sings, for three", 9, x.rest(0, 1, 3));
        CHECK.lies("rest where cold sings, for three", x, 0, -2);
        // At 20 none sings, elsewhere both do, the more the farther.
        x = Texts.of("kind k;dealer a of k song 0;dealer b of k song 0;"
            + "chirps (20-heat)*(20-heat)*20;");
        CHECK.due("two rests", 2, x.rest(0, 1, 1));
        CHECK.lies("two rests", x, 0, -2);
        // Each sings at 18, 19 and 21 as he likes best: 18 the buyer, 19 the seller.
        x = Texts.of("kind k;dealer a of k song 0;dealer b of k song 1;"
            + "chirps (song=0)*(heat>18)*80+(song=1)*(heat=19)*80;");
        CHECK.due("a rest of 18 and 19", 1, x.rest(0, 1, 1));
        CHECK.lies("a rest of 18 and 19", x, -2, -1);
        // The HOUR is the one that is now, whatever was looked at ahead of it.
        x = Texts.of("kind k;dealer a of k song 0;dealer b of k song 0;chirps heat*2*(hour=0);");
        x.will(0, 1, 5);
        CHECK.due("rest at HOUR 0", 1, x.rest(0, 1, 4));
        CHECK.lies("rest at HOUR 0", x, -2, 2);
        x.hour();
        CHECK.due("rest at HOUR 1", 1, x.rest(0, 1, 4));
        CHECK.lies("rest at HOUR 1", x, 0, 0);
    }

    private static void restRefused() {
        CricketHay x = Texts.of("kind k;dealer a of k song 0;dealer b of k song 0;"
            + "dealer c of k song 1;");
        int[][] wrong = {{0, 1, 0}, {0, 1, 10}, {0, 1, -1}, {0, 0, 1}, {0, 3, 1}, {3, 0, 1},
            {-1, 0, 1}, {0, -1, 1}, {0, 1, Integer.MAX_VALUE}};
        for (int[] w : wrong) {
            x.rest(0, 1, 1);
            String call = "rest(" + w[0] + ", " + w[1] + ", " + w[2] + ")";
            CHECK.due(call, -1, x.rest(w[0], w[1], w[2]));
            CHECK.lies(call, x);
        }
        x.free(2);
        x.rest(0, 1, 1);
        CHECK.due("rest of a FREE seller", -1, x.rest(0, 2, 1));
        CHECK.lies("rest of a FREE seller", x);
        CHECK.due("rest of a FREE buyer", -1, x.rest(2, 0, 1));
        CHECK.due("rest of the others", 1, x.rest(0, 1, 1));
    }

    private static void law() {
        CricketHay x = market(dealer("a", 10, 0, 0, 0), dealer("b", 21, 0, 0, 0),
            dealer("c", 40, 0, 0, 0));
        // Prices 15, 25, 30.
        CHECK.due("law(1)", 21 + 40 + 40 - 70, x.law(1));
        CHECK.due("law(2)", 10 + 10 + 21 - 70, x.law(2));
        CHECK.due("law(3)", 31 + 50 + 61 - 70, x.law(3));
        CHECK.due("law(0)", -1000000, x.law(0));
        CHECK.due("law(4)", -1000000, x.law(4));
        CHECK.due("law(-1)", -1000000, x.law(-1));
        x.free(2);
        // Prices 15, 5, 10.
        CHECK.due("law(1) with a FREE one", 21 + 10 + 21 - 30, x.law(1));
        CHECK.due("law(2) with a FREE one", 10 + 0 + 0 - 30, x.law(2));
        CHECK.due("law of one alone", 0, market(dealer("a", 10, 0, 0, 0)).law(3));
    }

    private static void liesStay() {
        CricketHay x = market(dealer("a", 10, 99, 0, 1), dealer("b", 20, 99, 1, 0),
            dealer("c", 30, 99, 0, 0));
        x.plan(0, 1, 3, 5);
        CHECK.lies("a plan", x, 3, 0, 0, 0, 0);
        x.hour();
        x.undo();
        x.price(0, 1);
        x.hush(3);
        x.heard(1, 1, true);
        x.image(0);
        x.back(0);
        x.law(9);
        CHECK.lies("a plan, later", x, 3, 0, 0, 0, 0);
        x.gain(0);
        CHECK.lies("a gain", x, 1, 2);
        x.clear(1);
        CHECK.lies("a clearing", x, 1, -1, -1);
        x.rest(0, 1, 1);
        CHECK.lies("a rest", x, 0, 0);
        CHECK.due("lies(most)", -100, x.lies(Integer.MAX_VALUE));
        CHECK.due("lies(least)", -100, x.lies(Integer.MIN_VALUE));
    }
}
