import java.util.function.Supplier;

/** Edges of what hours bring: the terms' third part up to PLAN, promises 18 to 21 and 24 to 26. */
final class AheadEdges {
    private static final int[] FAR = {Integer.MIN_VALUE, -1, 2, 6, Integer.MAX_VALUE};
    private static final int[] NO_HOURS = {Integer.MIN_VALUE, -1, 61, 1000, Integer.MAX_VALUE};

    private final Edges e;

    private AheadEdges(Edges e) {
        this.e = e;
    }

    static void all(Edges e) {
        AheadEdges edges = new AheadEdges(e);
        edges.nothingIsDone();
        edges.willTerm();
        edges.lowAndHighTerm();
        edges.planTerm();
        edges.will();
        edges.low();
        edges.high();
        edges.plan();
        edges.spoils();
        edges.starve();
        edges.hush();
    }

    private static void hours(CricketHay x, int many) {
        for (int i = 0; i < many; i++) {
            x.hour();
        }
    }

    /** Two crickets that sing alike, so that a load costs what comes of the formula. */
    private static CricketHay two(String formula, String more) {
        return Texts.of("kind k;dealer a of k song 1 gold 300 loads 9 needs 2;"
            + "dealer b of k song 1 gold 300 loads 9 needs 5;chirps " + formula + ";" + more);
    }

    // ---- Terms ----

    private static CricketHay begun() {
        CricketHay x = two("50-heat+hour", "snap 50 of 3;draw 9;cart 9;");
        x.breathe(0, 4);
        x.hour();
        x.breathe(1, -2);
        x.undo();
        x.plan(0, 1, 5, 3);
        return x;
    }

    private void nothingIsDone() {
        e.says("Terms", "(By what is now; nothing is done; snaps as the SEED tells, if not told "
            + "otherwise.)");
        e.nothingDone("will", AheadEdges::begun, y -> y.will(0, 1, 60));
        e.nothingDone("low", AheadEdges::begun, y -> y.low(0, 1, 60));
        e.nothingDone("high", AheadEdges::begun, y -> y.high(0, 1, 60));
        e.nothingDone("spoils", AheadEdges::begun, y -> y.spoils(0));
        e.nothingDone("starve", AheadEdges::begun, y -> y.starve(60));
        e.nothingDone("hush", AheadEdges::begun, y -> y.hush(0));
        e.nothingDone("mean", AheadEdges::begun, y -> y.mean(0, 1, 3, 0));
        e.nothingDone("odds", AheadEdges::begun, y -> y.odds(0, 1, 20, 4, 0));
        e.nothingDone("law", AheadEdges::begun, y -> y.law(1));
        e.nothingDone("song", AheadEdges::begun, y -> y.song(8));
        e.nothingDone("songs", AheadEdges::begun, y -> y.songs(9));
        e.nothingButLies("plan", AheadEdges::begun, y -> y.plan(0, 1, 5, 12));
        e.nothingButLies("gain", AheadEdges::begun, y -> y.gain(0));
        e.nothingButLies("clear", AheadEdges::begun, y -> y.clear(0));
        e.nothingButLies("rest", AheadEdges::begun, y -> y.rest(0, 1, 9));
        // SEEDS from 9: 304, 719, 574, 709, 204, and so COLDS of 7, 6, 5, 11, 17 by 10 of 7.
        CricketHay x = two("heat", "heat 40;snap 10 of 7;draw 9;");
        int[] heats = {40, 33, 34, 35, 29, 23};
        for (int n = 0; n < heats.length; n++) {
            e.due("will(0, 1, " + n + ") by the SEED", heats[n], x.will(0, 1, n));
        }
        for (int n = 0; n < heats.length; n++) {
            e.due("PRICE in HOUR " + n, heats[n], x.price(0, 1));
            x.hour();
        }
    }

    private void willTerm() {
        e.says("Terms", "WILL: the PRICE between two behind n HOURS (this, and all that goes ahead, "
            + "beyond day 999, too).");
        CricketHay x = two("hour+day%2*50", "");
        e.due("will now", 0, x.will(0, 1, 0));
        e.due("will behind 23", 23, x.will(0, 1, 23));
        e.due("will behind 24", 50, x.will(0, 1, 24));
        e.due("will behind 60", 12, x.will(0, 1, 60));
        // More calls than are promised: 512 don't go so far.
        x = two("day-970", "");
        hours(x, 24 * 1000 - 1);
        e.due("PRICE on day 999", 29, x.price(0, 1));
        e.due("will on day 999", 29, x.will(0, 1, 0));
        e.due("will on day 1000", 30, x.will(0, 1, 1));
        e.due("will on day 1002", 32, x.will(0, 1, 60));
        e.due("high beyond day 999", 49, x.high(0, 1, 60));
        e.due("plan beyond day 999", 29 * 3 + 30, x.plan(0, 1, 4, 2));
        e.lies("plan beyond day 999", x, 3, 1);
        e.due("starve beyond day 999", x.dealer(0, 3) + x.dealer(1, 3) + 7, x.starve(1));
        e.due("hush beyond day 999", 0, x.hush(58));
        e.due("mean beyond day 999", 30, x.mean(0, 1, 3, 0));
        e.due("odds beyond day 999", 1, x.odds(0, 1, 30, 1, 0));
        e.due("hour() in HOUR 23 of day 999", -1, x.hour());
    }

    private void lowAndHighTerm() {
        e.says("Terms", "LOW, HIGH of n: behind how many HOURS (0 .. n) it is least, greatest; of "
            + "like ones the fewest.");
        CricketHay up = two("hour+day*24", "");
        CricketHay down = two("90-hour-day*24", "");
        CricketHay level = two("9", "");
        CricketHay twice = two("10+(hour=3)*5-(hour=4)*5", "");
        for (int n = 0; n <= 60; n++) {
            e.due("low upwards of " + n, 0, up.low(0, 1, n));
            e.due("high upwards of " + n, n, up.high(0, 1, n));
            e.due("low downwards of " + n, n, down.low(0, 1, n));
            e.due("high downwards of " + n, 0, down.high(0, 1, n));
            e.due("low on the level of " + n, 0, level.low(0, 1, n));
            e.due("high on the level of " + n, 0, level.high(0, 1, n));
            e.due("low twice of " + n, n < 4 ? 0 : 4, twice.low(0, 1, n));
            e.due("high twice of " + n, n < 3 ? 0 : 3, twice.high(0, 1, n));
        }
    }

    private void planTerm() {
        e.says("Terms", "PLAN of loads in n HOURS (now, and behind each of the next n - 1): how many "
            + "to buy at each, no more than the cart takes, so that they cost least together; of like"
            + " ones the plan with most loads at the first HOUR, then at the second one, and so on.");
        CricketHay x = two("9-hour", "cart 2;");
        e.due("of 1 HOUR", 18, x.plan(0, 1, 2, 1));
        e.lies("of 1 HOUR", x, 2);
        e.due("of 4 HOURS", 6 * 2 + 7 * 2 + 8, x.plan(0, 1, 5, 4));
        e.lies("of 4 HOURS", x, 0, 1, 2, 2);
        e.due("of all that the cart takes", 2 * (9 + 8 + 7), x.plan(0, 1, 6, 3));
        e.lies("of all that the cart takes", x, 2, 2, 2);
        x = two("(hour=2)*9", "cart 4;");
        e.due("for nothing", 0, x.plan(0, 1, 9, 5));
        e.lies("for nothing", x, 4, 4, 0, 1, 0);
        e.due("for nothing, but one", 9, x.plan(0, 1, 9, 3));
        e.lies("for nothing, but one", x, 4, 4, 1);
        // Prices 3 2 2 1 3 2 at HOURS 0 to 5.
        x = two("3-(hour=1)-(hour=2)-(hour=3)*2-(hour=5)", "cart 3;");
        e.due("of like ones", 3 + 2 * 5, x.plan(0, 1, 8, 6));
        e.lies("of like ones", x, 0, 3, 2, 3, 0, 0);
        e.due("of like ones, the first three", 3 * 3 + 2 * 6, x.plan(0, 1, 9, 3));
        e.lies("of like ones, the first three", x, 3, 3, 3);
        e.due("of like ones, most at the first", 3 + 2 * 9 + 3, x.plan(0, 1, 13, 6));
        e.lies("of like ones, most at the first", x, 1, 3, 3, 3, 0, 3);
        x.hour();
        e.due("from HOUR 1", 3 + 2, x.plan(0, 1, 4, 4));
        e.lies("from HOUR 1", x, 1, 0, 3, 0);
        x = two("heat", "cart 9;");
        x.breathe(0, -5);
        x.breathe(1, -5);
        e.due("by BREATHS that are now", 15 * 9 + 20, x.plan(0, 1, 10, 3));
        e.lies("by BREATHS that are now", x, 9, 1, 0);
    }

    // ---- Promises 18 to 21 and 24 to 26 ----

    /** What asks about two dealers and n hours. */
    private interface Asked {
        int of(CricketHay x, int dealer, int other, int n);
    }

    private void refusals(String call, Asked asked) {
        for (int n : NO_HOURS) {
            e.refused(call + "(0, 1, " + n + ")", -1, AheadEdges::begun, x -> asked.of(x, 0, 1, n));
        }
        for (int far : FAR) {
            e.refused(call + "(0, " + far + ", 1)", -1, AheadEdges::begun,
                x -> asked.of(x, 0, far, 1));
            e.refused(call + "(" + far + ", 1, 1)", -1, AheadEdges::begun,
                x -> asked.of(x, far, 1, 1));
        }
        e.refused(call + "(1, 1, 1)", -1, AheadEdges::begun, x -> asked.of(x, 1, 1, 1));
    }

    private void will() {
        e.says("Promise 18: will", "WILL (n 0 .. 60); NONE if one can't be.");
        CricketHay x = two("day*24+hour", "");
        for (int n = 0; n <= 60; n++) {
            e.due("will(0, 1, " + n + ")", n, x.will(0, 1, n));
            e.due("will(1, 0, " + n + ")", n, x.will(1, 0, n));
        }
        refusals("will", CricketHay::will);
    }

    private void low() {
        e.says("Promise 19: low", "LOW (n 0 .. 60): behind how many HOURS; NONE if one can't be.");
        e.due("low(0, 1, 0)", 0, two("60-day*24-hour", "").low(0, 1, 0));
        e.due("low(0, 1, 60)", 60, two("60-day*24-hour", "").low(0, 1, 60));
        e.due("low(1, 0, 59)", 59, two("60-day*24-hour", "").low(1, 0, 59));
        refusals("low", CricketHay::low);
    }

    private void high() {
        e.says("Promise 20: high", "HIGH (n 0 .. 60): behind how many HOURS; NONE if one can't be.");
        e.due("high(0, 1, 0)", 0, two("day*24+hour", "").high(0, 1, 0));
        e.due("high(0, 1, 60)", 60, two("day*24+hour", "").high(0, 1, 60));
        e.due("high(1, 0, 59)", 59, two("day*24+hour", "").high(1, 0, 59));
        refusals("high", CricketHay::high);
    }

    private void plan() {
        e.says("Promise 21: plan", "PLAN (1 .. 20 loads, 1 .. 12 HOURS): what they cost; NONE if the "
            + "cart does not take so many, or one can't be. How many at each HOUR lies there then "
            + "(behind NONE: nothing).");
        CricketHay x = two("7", "cart 9;");
        e.due("plan(0, 1, 1, 1)", 7, x.plan(0, 1, 1, 1));
        e.lies("plan(0, 1, 1, 1)", x, 1);
        e.due("plan(0, 1, 20, 12)", 140, x.plan(0, 1, 20, 12));
        e.lies("plan(0, 1, 20, 12)", x, 9, 9, 2, 0, 0, 0, 0, 0, 0, 0, 0, 0);
        e.due("plan(0, 1, 1, 12)", 7, x.plan(0, 1, 1, 12));
        e.lies("plan(0, 1, 1, 12)", x, 1, 0, 0, 0, 0, 0, 0, 0, 0, 0, 0, 0);
        for (int cart = 1; cart <= 9; cart++) {
            Supplier<CricketHay> fresh = planned("cart " + cart + ";");
            for (int hours = 1; hours <= 12; hours++) {
                int most = Math.min(20, cart * hours);
                int n = hours;
                e.due("plan of " + most + " by cart " + cart + " in " + n, 7 * most,
                    fresh.get().plan(0, 1, most, n));
                if (hours == 1 || hours == 12 || cart * hours == 18) {
                    e.refusedBare("plan of " + (most + 1) + " by cart " + cart + " in " + n, -1,
                        fresh, y -> y.plan(0, 1, most + 1, n));
                }
            }
        }
        e.refusedBare("plan of 4 by a cart not told", -1, planned(""), y -> y.plan(0, 1, 4, 1));
        Supplier<CricketHay> nine = planned("cart 9;");
        for (int loads : new int[] {Integer.MIN_VALUE, -1, 0, 21, 99, Integer.MAX_VALUE}) {
            e.refusedBare("plan(0, 1, " + loads + ", 12)", -1, nine,
                y -> y.plan(0, 1, loads, 12));
        }
        for (int hours : new int[] {Integer.MIN_VALUE, -1, 0, 13, 60, Integer.MAX_VALUE}) {
            e.refusedBare("plan(0, 1, 1, " + hours + ")", -1, nine, y -> y.plan(0, 1, 1, hours));
        }
        for (int far : FAR) {
            e.refusedBare("plan(0, " + far + ", 1, 1)", -1, nine, y -> y.plan(0, far, 1, 1));
            e.refusedBare("plan(" + far + ", 1, 1, 1)", -1, nine, y -> y.plan(far, 1, 1, 1));
        }
        e.refusedBare("plan(0, 0, 1, 1)", -1, nine, y -> y.plan(0, 0, 1, 1));
    }

    /** A plan lies there, which a refused one takes away. */
    private static Supplier<CricketHay> planned(String more) {
        return () -> {
            CricketHay x = two("7", more);
            x.plan(0, 1, 1, 12);
            return x;
        };
    }

    private static CricketHay three() {
        CricketHay x = Texts.of("kind k;chirps age-mates*20;dealer a of k song 1 age 50;"
            + "dealer b of k song 1 age 45;dealer c of k song 1 age 99;");
        x.free(2);
        return x;
    }

    private void spoils() {
        e.says("Promise 24: spoils", "By how much all PRICES (each two once) would be less together, "
            + "if a DEALER's cricket were FREE (it may be below 0); -1000000 if it is so already, or "
            + "there is none such.");
        // There are 30 and 25, and so PRICES of 27, 15, 12; without b's there is a's 50.
        CricketHay x = three();
        e.due("spoils(0)", 27 + 15 + 12 - (22 + 0 + 22), x.spoils(0));
        e.due("spoils(1)", 27 + 15 + 12 - (25 + 25 + 0), x.spoils(1));
        x = Texts.of("kind k;chirps 40-mates*40;dealer a of k song 1;dealer b of k song 1;");
        e.due("spoils below 0", -20, x.spoils(0));
        e.due("spoils of one alone", 0, Texts.of("kind k;dealer a of k song 9;").spoils(0));
        e.refused("spoils(2), FREE already", -1000000, AheadEdges::three, y -> y.spoils(2));
        for (int far : new int[] {Integer.MIN_VALUE, -1, 3, 6, Integer.MAX_VALUE}) {
            e.refused("spoils(" + far + ")", -1000000, AheadEdges::three, y -> y.spoils(far));
        }
        x = three();
        x.free(0);
        e.due("spoils of the last one", 22 + 22 + 0, x.spoils(1));
        x.free(1);
        e.due("spoils, all FREE", -1000000, x.spoils(1));
    }

    private void starve() {
        e.says("Promise 25: starve", "All HUNGER together behind n HOURS (0 .. 60), if nothing is "
            + "bought; NONE for another n.");
        Supplier<CricketHay> fresh = () -> Texts.of("kind k;dealer a of k song 1 loads 3 needs 2;"
            + "dealer b of k song 1 needs 9;dealer c of k song 1 loads 9;");
        CricketHay x = fresh.get();
        int[] hours = {0, 23, 24, 47, 48, 60};
        int[] due = {0, 0, 9, 9, 19, 19};
        for (int i = 0; i < hours.length; i++) {
            e.due("starve(" + hours[i] + ")", due[i], x.starve(hours[i]));
        }
        hours(x, 37);
        e.due("starve(0), HUNGER that is", 9, x.starve(0));
        e.due("starve(10), no day more", 9, x.starve(10));
        e.due("starve(11), a day more", 9 + 10, x.starve(11));
        e.due("starve(58), two days more", 9 + 10 + 11, x.starve(58));
        e.due("starve(59), three days more", 9 + 10 + 11 + 11, x.starve(59));
        e.due("starve(60), three days more", 9 + 10 + 11 + 11, x.starve(60));
        for (int n : NO_HOURS) {
            e.refused("starve(" + n + ")", -1, fresh, y -> y.starve(n));
        }
        e.due("starve(60) of nobody", 0, new CricketHay().starve(60));
    }

    private void hush() {
        e.says("Promise 26: hush", "Behind how many HOURS (0 .. 60) all CHIRPS together are so few "
            + "(0 .. 594) at the most first; NONE if never, or for another number.");
        CricketHay x = two("80-hour-day*24", "");
        for (int n = 0; n <= 60; n++) {
            e.due("hush(" + (160 - 2 * n) + ")", n, x.hush(160 - 2 * n));
        }
        e.due("hush(161)", 0, x.hush(161));
        e.due("hush(159)", 1, x.hush(159));
        e.due("hush(39), an HOUR too late", -1, x.hush(39));
        e.due("hush(0), never", -1, x.hush(0));
        x = two("(hour=5)*99", "");
        e.due("hush(0), at once", 0, x.hush(0));
        hours(x, 5);
        e.due("hush(197), an HOUR later", 1, x.hush(197));
        e.due("hush(198), at once", 0, x.hush(198));
        e.due("hush(0) of nobody", 0, new CricketHay().hush(0));
        StringBuilder six = new StringBuilder("kind k;chirps 99;");
        for (char c = 'a'; c <= 'f'; c++) {
            six.append("dealer ").append(c).append(" of k song 1;");
        }
        e.due("hush(594) of the most CHIRPS", 0, Texts.of(six.toString()).hush(594));
        e.due("hush(593) of the most CHIRPS", -1, Texts.of(six.toString()).hush(593));
        for (int n : new int[] {Integer.MIN_VALUE, -1, 595, Integer.MAX_VALUE}) {
            e.refused("hush(" + n + ")", -1, AheadEdges::begun, y -> y.hush(n));
            e.due("hush(" + n + ") of nobody", -1, new CricketHay().hush(n));
        }
    }
}
