import java.util.function.Supplier;

/** Edges of deals: GAIN, CLEARING and REST of the terms' third part, promises 22, 23, 28, 33. */
final class DealEdges {
    private static final int[] FAR = {Integer.MIN_VALUE, -1, 3, 6, Integer.MAX_VALUE};

    private final Edges e;

    private DealEdges(Edges e) {
        this.e = e;
    }

    static void all(Edges e) {
        DealEdges edges = new DealEdges(e);
        edges.gainTerm();
        edges.gainOfLikeOnes();
        edges.clearTerm();
        edges.clearSellers();
        edges.clearMost();
        edges.clearOfLikeOnes();
        edges.restTerm();
        edges.restSteps();
        edges.gain();
        edges.clear();
        edges.rest();
        edges.lies();
    }

    /** Dealers of one kind, of each what his cricket chirps, his gold, loads and needs. */
    private static CricketHay market(int[]... told) {
        StringBuilder text = new StringBuilder("kind k;chirps age;");
        for (int i = 0; i < told.length; i++) {
            text.append("dealer ").append((char) ('a' + i)).append(" of k song 1 age ")
                .append(told[i][0]).append(" gold ").append(told[i][1]).append(" loads ")
                .append(told[i][2]).append(" needs ").append(told[i][3]).append(';');
        }
        return Texts.of(text.toString());
    }

    private static int[] one(int chirps, int gold, int loads, int needs) {
        return new int[] {chirps, gold, loads, needs};
    }

    // ---- Terms ----

    private void gains(String when, int due, CricketHay x, int dealer, int... lies) {
        e.due(when + ": gain(" + dealer + ")", due, x.gain(dealer));
        e.lies(when, x, lies);
    }

    private void gainTerm() {
        e.says("Terms", "GAIN of a DEALER: he buys a load of one who has some, and sells it to another"
            + " one who has its PRICE, so that he gets most (his own gold must do for the first);");
        // a buys of b at 15 and sells to c at 20.
        gains("one load", 5, market(one(10, 15, 0, 0), one(20, 0, 1, 0), one(30, 20, 0, 0)), 0, 1, 2);
        gains("no load", -1000, market(one(10, 15, 9, 0), one(20, 0, 0, 0), one(30, 20, 0, 0)), 0);
        gains("a gold too few", -1000,
            market(one(10, 14, 0, 0), one(20, 0, 1, 0), one(30, 20, 0, 0)), 0);
        gains("a gold too few of the other one", -1000,
            market(one(10, 15, 0, 0), one(20, 0, 1, 0), one(30, 19, 0, 0)), 0);
        gains("two alone", -1000, market(one(10, 99, 9, 0), one(20, 99, 9, 0)), 0);
        gains("the most", 50, market(one(1, 0, 0, 0), one(0, 0, 1, 0), one(99, 50, 0, 0)), 0, 1, 2);
        gains("the least", -50, market(one(1, 50, 0, 0), one(99, 0, 1, 0), one(0, 0, 0, 0)), 0, 1, 2);
        gains("nothing", 0, market(one(10, 15, 0, 0), one(20, 0, 1, 0), one(21, 15, 0, 0)), 0, 1, 2);
        // The dearer buyer has not his PRICE, the cheaper seller has no load.
        gains("what is left", 1, market(one(10, 99, 0, 0), one(20, 0, 1, 0), one(22, 16, 0, 0),
            one(60, 34, 0, 0), one(5, 0, 0, 0)), 0, 1, 2);
        // Of b to c 1, to d 2; of e at 12 to c 4, to d 5.
        gains("better and better", 5, market(one(10, 99, 0, 0), one(20, 0, 1, 0), one(22, 16, 0, 0),
            one(24, 17, 0, 0), one(14, 0, 1, 0)), 0, 4, 3);
        gains("of the last to the first", 25, market(one(60, 99, 0, 0), one(20, 99, 0, 0),
            one(10, 99, 1, 0)), 1, 2, 0);
    }

    private void gainOfLikeOnes() {
        e.says("Terms", "of like ones the first one, then the other one, by numbers.");
        gains("all alike", 0, market(one(9, 9, 1, 0), one(9, 9, 1, 0), one(9, 9, 1, 0),
            one(9, 9, 1, 0)), 0, 1, 2);
        gains("all alike, of the last", 0, market(one(9, 9, 1, 0), one(9, 9, 1, 0),
            one(9, 9, 1, 0), one(9, 9, 1, 0)), 3, 0, 1);
        gains("all alike, of the second", 0, market(one(9, 9, 1, 0), one(9, 9, 1, 0),
            one(9, 9, 1, 0), one(9, 9, 1, 0)), 1, 0, 2);
        gains("two buyers", 5, market(one(10, 99, 1, 0), one(30, 99, 0, 0), one(30, 99, 0, 0),
            one(20, 0, 1, 0)), 0, 3, 1);
        gains("two sellers", 5, market(one(10, 99, 1, 0), one(30, 99, 0, 0), one(20, 0, 1, 0),
            one(21, 0, 1, 0)), 0, 2, 1);
    }

    private void clears(String when, CricketHay x, int sold, int paid, int... from) {
        e.due(when + ": clear(0)", sold, x.clear(0));
        e.lies(when, x, from);
        e.due(when + ": clear(1)", paid, x.clear(1));
        e.lies(when, x, from);
    }

    private void clearTerm() {
        e.says("Terms", "CLEARING: each DEALER who has fewer loads than his beasts need buys one load,"
            + " or none, of another one");
        clears("one too few", market(one(10, 99, 3, 4), one(20, 0, 9, 0)), 1, 15, 1, -1);
        clears("just enough", market(one(10, 99, 4, 4), one(20, 0, 9, 0)), 0, 0, -1, -1);
        clears("nine too few, one load", market(one(10, 99, 0, 9), one(20, 0, 99, 0)), 1, 15, 1, -1);
        clears("no needs", market(one(10, 99, 0, 0), one(20, 0, 9, 0)), 0, 0, -1, -1);
        clears("one alone", market(one(10, 99, 0, 9)), 0, 0, -1);
        clears("nobody", Texts.of(""), 0, 0);
        clears("all in need", market(one(1, 99, 1, 2), one(1, 99, 0, 1), one(1, 99, 8, 9)), 0, 0,
            -1, -1, -1);
        clears("the last one", market(one(20, 0, 9, 0), one(9, 0, 0, 0), one(10, 99, 0, 1)), 1, 15,
            -1, -1, 0);
    }

    private void clearSellers() {
        e.says("Terms", "who has more than his need (each sells no more than he has over), and has "
            + "its PRICE;");
        clears("one over", market(one(10, 99, 0, 1), one(20, 0, 5, 4)), 1, 15, 1, -1);
        clears("none over", market(one(10, 99, 0, 1), one(20, 0, 4, 4)), 0, 0, -1, -1);
        clears("one over for two", market(one(10, 99, 0, 1), one(20, 0, 5, 4), one(10, 99, 0, 1)),
            1, 15, -1, -1, 1);
        clears("two over for two", market(one(10, 99, 0, 1), one(20, 0, 6, 4), one(10, 99, 0, 1)),
            2, 30, 1, -1, 1);
        clears("just the gold", market(one(10, 15, 0, 1), one(20, 0, 9, 0)), 1, 15, 1, -1);
        clears("a gold too few", market(one(10, 14, 0, 1), one(20, 0, 9, 0)), 0, 0, -1, -1);
        clears("for nothing", market(one(0, 0, 0, 1), one(1, 0, 9, 0)), 1, 0, 1, -1);
    }

    private void clearMost() {
        e.says("Terms", "so that most are sold; of like ones they are paid least together;");
        // a can pay b alone, who would be the cheaper one for c, too.
        clears("most", market(one(10, 15, 0, 1), one(20, 0, 1, 0), one(10, 99, 0, 1),
            one(90, 0, 1, 0)), 2, 15 + 50, 1, -1, 3, -1);
        // 14 and 30, not 15 and 30, which would be the first one by numbers.
        clears("least", market(one(10, 99, 0, 1), one(20, 0, 1, 0), one(41, 99, 0, 1),
            one(19, 0, 1, 0)), 2, 14 + 30, 3, -1, 1, -1);
        clears("the cheaper one of two in need", market(one(10, 99, 0, 1), one(20, 0, 1, 0),
            one(12, 99, 0, 1)), 1, 15, 1, -1, -1);
        clears("the cheaper one of two sellers", market(one(10, 99, 0, 1), one(20, 0, 9, 0),
            one(18, 0, 1, 0)), 1, 14, 2, -1, -1);
        clears("five in need", market(one(1, 9, 0, 1), one(1, 9, 0, 1), one(1, 9, 0, 1),
            one(1, 9, 0, 1), one(1, 9, 0, 1), one(1, 0, 99, 9)), 5, 5, 5, 5, 5, 5, 5, -1);
    }

    private void clearOfLikeOnes() {
        e.says("Terms", "of like ones the first (DEALER by DEALER: of nobody, then by numbers).");
        clears("two for three", market(one(5, 9, 0, 1), one(5, 9, 0, 1), one(5, 9, 0, 1),
            one(5, 0, 1, 0), one(5, 0, 1, 0)), 2, 10, -1, 3, 4, -1, -1);
        clears("two sellers for one", market(one(5, 0, 1, 0), one(5, 9, 0, 1), one(5, 0, 1, 0)),
            1, 5, -1, 0, -1);
        clears("three sellers for three", market(one(5, 9, 0, 1), one(5, 9, 0, 1), one(5, 9, 0, 1),
            one(5, 0, 1, 0), one(5, 0, 1, 0), one(5, 0, 1, 0)), 3, 15, 3, 4, 5, -1, -1, -1);
        clears("one who has enough for all", market(one(5, 9, 0, 1), one(5, 9, 0, 1),
            one(5, 9, 0, 1), one(5, 0, 3, 0), one(5, 0, 9, 0)), 3, 15, 3, 3, 3, -1, -1);
        // 6 and 5, 6 and 4 are cut alike.
        clears("cut alike", market(one(6, 9, 0, 1), one(5, 0, 1, 0), one(4, 0, 1, 0)), 1, 5,
            1, -1, -1);
    }

    private static CricketHay singing(String chirps, int heat) {
        return Texts.of("kind k;dealer a of k song 0;dealer b of k song 0;chirps " + chirps
            + ";heat " + heat + ";");
    }

    private void rests(String when, CricketHay x, int loads, int count, int... first) {
        e.due(when + ": rest(0, 1, " + loads + ")", count, x.rest(0, 1, loads));
        e.lies(when, x, first);
    }

    private void restTerm() {
        e.says("Terms", "REST of two for so many loads: BREATHS of both (-2 .. 2, in place of theirs) "
            + "such that none would have more by another one alone,");
        // Each degree of either is worth 4: the buyer goes down, the seller up, two steps at most.
        rests("two steps", singing("heat*2", 20), 4, 1, -2, 2);
        rests("cut at 39", singing("heat*2", 39), 4, 1, -2, 1);
        rests("cut at 40", singing("heat*2", 40), 4, 1, -2, 0);
        rests("cut at 1", singing("heat*2", 1), 4, 1, -1, 2);
        rests("cut at 0", singing("heat*2", 0), 4, 1, 0, 2);
        CricketHay x = singing("heat*2", 20);
        x.breathe(0, 5);
        x.breathe(1, -5);
        rests("in place of theirs", x, 4, 1, -2, 2);
        e.due("the buyer's as it was", 5, x.dealer(0, 7));
        e.due("the seller's as it was", -5, x.dealer(1, 7));
        x = singing("heat*2*(hour=0)", 20);
        x.will(0, 1, 5);
        rests("in the HOUR that is now", x, 4, 1, -2, 2);
        x.hour();
        rests("an HOUR later", x, 4, 1, 0, 0);
        rests("one that is cold sings", singing("99-heat*2", 20), 4, 1, 2, -2);
        // 41 halved is as good as 40, so that each step back and forth pays one of both.
        rests("none at rest", singing("heat", 20), 4, 0);
        rests("none at rest by nine", singing("heat", 20), 9, 0);
    }

    private void restSteps() {
        e.says("Terms", "if the buyer pays the PRICE of each load, the seller gets it, and each loses "
            + "3 gold for each step that his BREATH is from 0.");
        rests("a step worth 2", singing("heat*2", 20), 2, 1, 0, 0);
        rests("a step worth 3", singing("heat*2", 20), 3, 9, -2, 0);
        rests("a step worth 4", singing("heat*2", 20), 4, 1, -2, 2);
        rests("worth 3, cut at 39", singing("heat*2", 39), 3, 6, -2, 0);
        rests("worth 3, cut at 40", singing("heat*2", 40), 3, 3, -2, 0);
        rests("worth 3, cut at 1", singing("heat*2", 1), 3, 6, -1, 0);
        rests("halved, for 3", singing("heat", 20), 3, 2, -1, 0);
        rests("halved, for 1", singing("heat", 20), 1, 1, 0, 0);
        rests("CHIRPS cut at 99", singing("heat*9", 20), 9, 1, 0, 0);
    }

    // ---- Promises 22, 23, 28, 33 ----

    private static CricketHay three() {
        CricketHay x = Texts.of("kind k;kind j;dealer a of k song 1 gold 99 needs 1;"
            + "dealer b of k song 2 gold 99 loads 5;dealer c of j song 9 gold 99;cart 9;");
        x.breathe(0, 2);
        x.plan(0, 1, 9, 12);
        return x;
    }

    private void gain() {
        e.says("Promise 22: gain", "GAIN: how much (it may be below 0); -1000 if it can't be, or there"
            + " is none such. The one, the other one lie there then (behind -1000: nothing).");
        CricketHay x = three();
        gains("a gain", 26 - 22, x, 0, 1, 2);
        gains("below 0", -1, market(one(1, 99, 0, 0), one(3, 0, 9, 0), one(2, 9, 0, 0)), 0, 1, 2);
        e.refusedBare("gain(1), nobody else has a load", -1000, DealEdges::three, y -> y.gain(1));
        for (int far : FAR) {
            e.refusedBare("gain(" + far + ")", -1000, DealEdges::three, y -> y.gain(far));
        }
        e.refusedBare("gain(0) of nobody", -1000, CricketHay::new, y -> y.gain(0));
    }

    private void clear() {
        e.says("Promise 23: clear", "CLEARING what 0: how many loads, 1: what is paid together; NONE "
            + "for another what. From whom each buys lies there then, DEALER by DEALER (NONE: from "
            + "nobody; behind NONE: nothing).");
        CricketHay x = three();
        e.due("clear(0)", 1, x.clear(0));
        e.lies("clear(0)", x, 1, -1, -1);
        x = three();
        e.due("clear(1)", 22, x.clear(1));
        e.lies("clear(1)", x, 1, -1, -1);
        for (int what : new int[] {Integer.MIN_VALUE, -1, 2, Integer.MAX_VALUE}) {
            e.refusedBare("clear(" + what + ")", -1, DealEdges::three, y -> y.clear(what));
        }
        int[] none = {-1, -1, -1, -1, -1, -1};
        StringBuilder text = new StringBuilder("kind k;");
        for (int many = 0; many <= 6; many++) {
            x = Texts.of(text.toString());
            e.due("clear(0) of " + many, 0, x.clear(0));
            e.lies("clear(0) of " + many, x, java.util.Arrays.copyOf(none, many));
            text.append("dealer ").append((char) ('a' + many)).append(" of k song 1 needs 9;");
        }
    }

    private void rest() {
        e.says("Promise 28: rest", "REST (1 .. 9 loads): how many such pairs of BREATHS; NONE if both "
            + "are one, one is FREE, or one can't be. The first (the buyer's, then the seller's) lies "
            + "there then (behind 0, NONE: nothing).");
        int[] counts = {1, 1, 9, 1, 1, 1, 1, 1, 1};
        int[] buyers = {0, 0, -2, -2, -2, -2, -2, -2, -2};
        int[] sellers = {0, 0, 0, 2, 2, 2, 2, 2, 2};
        for (int loads = 1; loads <= 9; loads++) {
            rests("by loads", singing("heat*2", 20), loads, counts[loads - 1], buyers[loads - 1],
                sellers[loads - 1]);
        }
        CricketHay x = three();
        rests("behind a plan, 0", x, 9, 0);
        for (int loads : new int[] {Integer.MIN_VALUE, -1, 0, 10, Integer.MAX_VALUE}) {
            e.refusedBare("rest(0, 1, " + loads + ")", -1, DealEdges::three,
                y -> y.rest(0, 1, loads));
        }
        for (int far : FAR) {
            e.refusedBare("rest(0, " + far + ", 1)", -1, DealEdges::three, y -> y.rest(0, far, 1));
            e.refusedBare("rest(" + far + ", 1, 1)", -1, DealEdges::three, y -> y.rest(far, 1, 1));
        }
        for (int dealer = 0; dealer < 3; dealer++) {
            int d = dealer;
            e.refusedBare("rest of " + d + " with himself", -1, DealEdges::three,
                y -> y.rest(d, d, 1));
        }
        Supplier<CricketHay> freed = () -> {
            CricketHay y = three();
            y.free(1);
            return y;
        };
        e.refusedBare("rest, the seller's FREE", -1, freed, y -> y.rest(0, 1, 1));
        e.refusedBare("rest, the buyer's FREE", -1, freed, y -> y.rest(1, 0, 1));
        e.due("rest, a third one's FREE", 1, freed.get().rest(0, 2, 1));
    }

    private void lies() {
        e.says("Promise 33: lies", "The i-th number of what lies there; -100 if there is none such.");
        CricketHay x = three();
        // The BREATH that is now makes the first HOUR a dear one.
        for (int i = 0; i < 12; i++) {
            e.due("lies(" + i + ")", i == 1 ? 9 : 0, x.lies(i));
        }
        for (int i : new int[] {Integer.MIN_VALUE, -1, 12, 13, Integer.MAX_VALUE}) {
            e.due("lies(" + i + ") of twelve", -100, x.lies(i));
        }
        x.gain(0);
        e.due("lies(1) of two", 2, x.lies(1));
        e.due("lies(2) of two", -100, x.lies(2));
        x.clear(0);
        e.due("lies(2) of three", -1, x.lies(2));
        e.due("lies(3) of three", -100, x.lies(3));
        x.plan(0, 1, 1, 13);
        e.due("lies(0) of none", -100, x.lies(0));
        e.due("lies(0) of a new object", -100, new CricketHay().lies(0));
    }
}
