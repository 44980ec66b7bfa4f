import java.util.function.Supplier;

/** Edges of what is now: the terms' second part but for acts, promises 6 to 11. */
final class NowEdges {
    private final Edges e;

    private NowEdges(Edges e) {
        this.e = e;
    }

    static void all(Edges e) {
        NowEdges edges = new NowEdges(e);
        edges.atFirst();
        edges.heatTerm();
        edges.chirpsGiven();
        edges.mates();
        edges.numbers();
        edges.cutChirps();
        edges.priceTerm();
        edges.dealer();
        edges.heat();
        edges.price();
        edges.cheapest();
        edges.chorus();
        edges.lasts();
    }

    /** Dealers of one kind, whose crickets chirp as often as their age tells. */
    private static CricketHay ages(String more, int... ages) {
        StringBuilder text = new StringBuilder("kind k;chirps age;");
        for (int i = 0; i < ages.length; i++) {
            text.append("dealer ").append((char) ('a' + i)).append(" of k song 1 age ")
                .append(ages[i]).append(more).append(';');
        }
        return Texts.of(text.toString());
    }

    private static void hours(CricketHay x, int many) {
        for (int i = 0; i < many; i++) {
            x.hour();
        }
    }

    // ---- Terms ----

    private void atFirst() {
        e.says("Terms", "A DEALER has gold, loads, a HUNGER (0 at first), and a cricket with an age,"
            + " a BREATH (0 at first), that is there or FREE (there, at first).");
        CricketHay x = Texts.of("kind k;dealer a of k song 9 age 99 gold 9999 loads 99 needs 9;"
            + "dealer b of k song 0;");
        for (int dealer = 0; dealer < 2; dealer++) {
            e.due("HUNGER of " + dealer, 0, x.dealer(dealer, 3));
            e.due("BREATH of " + dealer, 0, x.dealer(dealer, 7));
            e.due("whether FREE, of " + dealer, 0, x.dealer(dealer, 8));
        }
        e.due("gold", 9999, x.dealer(0, 0));
        e.due("loads", 99, x.dealer(0, 1));
        e.due("age", 99, x.dealer(0, 6));
    }

    private static int heatOf(String formula, int hours) {
        CricketHay x = Texts.of("kind k;dealer a of k song 9 age 9;dealer b of k song 8 age 7;heat "
            + formula + ";");
        hours(x, hours);
        return x.heat();
    }

    private void heatTerm() {
        e.says("Terms", "HEAT at an HOUR: what comes of heat (20, if it is not told) by hour (0 .. "
            + "23; 0 at first), day (0 at first), others 0, less the COLD (0 at first; the sum wraps,"
            + " too), 0 at least, 40 at most.");
        e.due("not told", 20, Texts.of("").heat());
        e.due("hour at first", 0, heatOf("hour", 0));
        e.due("hour behind 23", 23, heatOf("hour", 23));
        e.due("hour behind 24", 0, heatOf("hour", 24));
        e.due("day at first", 0, heatOf("day", 0));
        e.due("day behind 23 hours", 0, heatOf("day", 23));
        e.due("day behind 24 hours", 1, heatOf("day", 24));
        e.due("day behind 47 hours", 1, heatOf("day", 47));
        e.due("day behind 48 hours", 2, heatOf("day", 48));
        for (String other : new String[] {"heat", "song", "age", "mates"}) {
            e.due(other, 0, heatOf(other, 0));
            e.due("7 and " + other, 7, heatOf("7+" + other, 25));
        }
        int[] told = {0, 1, 39, 40, 41, 9999};
        int[] due = {0, 1, 39, 40, 40, 40};
        for (int i = 0; i < told.length; i++) {
            e.due("heat " + told[i], due[i], heatOf(told[i] + "", 0));
        }
        e.due("1 below 0", 0, heatOf("0-1", 0));
        // Less a COLD of 5 the sum is cut, not what comes of heat by itself.
        int[] given = {4, 5, 6, 40, 44, 45, 46};
        int[] colder = {0, 0, 1, 35, 39, 40, 40};
        for (int i = 0; i < given.length; i++) {
            e.due(given[i] + " by COLD 5", colder[i], heatOf(given[i] + ";snap 100 of 5", 1));
        }
        e.due("the least int", 0, heatOf("0-2048*1024*1024", 0));
        e.due("the least int by COLD 1", 40, heatOf("0-2048*1024*1024;snap 100 of 1", 1));
        e.due("one above it by COLD 1", 0, heatOf("0-2048*1024*1024+1;snap 100 of 1", 1));
        e.due("the greatest int", 40, heatOf("2048*1024*1024-1", 0));
    }

    private static int sung(int heat, int song, int breath, String chirps) {
        CricketHay x = Texts.of("kind k;dealer a of k song " + song + " age 77;heat " + heat + ";"
            + chirps);
        if (breath != 0) {
            x.breathe(0, breath);
        }
        return x.dealer(0, 9);
    }

    private void chirpsGiven() {
        e.says("Terms", "CHIRPS of a cricket that is there: what comes of chirps (heat and song "
            + "together, if it is not told) by heat (HEAT and its BREATH together, 0 at least, 40 at "
            + "most), song, age, mates (how many others of its KIND are there), hour, day");
        e.due("not told, the least", 0, sung(0, 0, 0, ""));
        e.due("not told, the greatest", 49, sung(40, 9, 0, ""));
        e.due("not told, by a BREATH", 22, sung(20, 4, -2, ""));
        int[] breaths = {-5, -3, -2, -1, 0, 1, 2, 3, 5};
        int[] high = {33, 35, 36, 37, 38, 39, 40, 40, 40};
        int[] low = {10, 10, 10, 11, 12, 13, 14, 15, 17};
        for (int i = 0; i < breaths.length; i++) {
            e.due("at 38 by " + breaths[i], high[i], sung(38, 1, breaths[i], "chirps heat;"));
            e.due("at 2 by " + breaths[i], low[i], sung(2, 1, breaths[i], "chirps heat+10;"));
        }
        e.due("a HEAT cut to 40, by -5", 35, sung(9999, 1, -5, "chirps heat;"));
        CricketHay x = Texts.of("kind k;dealer a of k song 1;heat 0-50;chirps heat;");
        x.breathe(0, 5);
        e.due("a HEAT cut to 0, by 5", 5, x.dealer(0, 9));
        e.due("song 0", 0, sung(20, 0, 0, "chirps song;"));
        e.due("song 9", 9, sung(20, 9, 0, "chirps song;"));
        e.due("age", 77, sung(20, 9, 0, "chirps age;"));
        int[] behind = {0, 23, 24, 47, 48};
        for (int hours : behind) {
            x = Texts.of("kind k;dealer a of k song 1;chirps hour*4+day;");
            hours(x, hours);
            e.due("hour and day behind " + hours, hours % 24 * 4 + hours / 24, x.dealer(0, 9));
        }
    }

    private void mates() {
        CricketHay x = Texts.of("kind k;kind j;kind i;dealer a of k song 1;dealer b of j song 1;"
            + "dealer c of k song 2;dealer d of i song 1;dealer e of k song 1;dealer f of j song 1;"
            + "chirps mates*30+1;");
        int[] mates = {2, 1, 2, 0, 2, 1};
        for (int i = 0; i < mates.length; i++) {
            e.due("mates of " + i, mates[i], x.dealer(i, 10));
            e.due("CHIRPS by mates of " + i, mates[i] * 30 + 1, x.dealer(i, 9));
        }
        x.free(0);
        x.free(5);
        int[] then = {0, 1, 31, 1, 31, 0};
        for (int i = 0; i < then.length; i++) {
            e.due("CHIRPS of " + i + " by those who are there", then[i], x.dealer(i, 9));
        }
        x = ages("", 1, 1, 1, 1, 1, 1);
        e.due("the most mates", 5, x.dealer(5, 10));
        e.due("none", 0, ages("", 1).dealer(0, 10));
    }

    private void worth(int due, String formula) {
        e.due("chirps " + formula, due, sung(20, 1, 0, "chirps " + formula + ";"));
    }

    private void numbers() {
        e.says("Terms", "(ints, wrapping; / cut, % its rest, both by 0: 0; relations, and, or, not "
            + "are 1 or 0, of what is not 0),");
        worth(1, "2048*1024*1024<0");
        worth(1, "2048*1024*1024-1>0");
        worth(1, "2048*1024*1024-1+1<0");
        worth(1, "(0-2048*1024*1024)/(0-1)<0");
        worth(9, "9+(0-2048*1024*1024)%(0-1)");
        worth(7, "7+2048*2048*1024");
        worth(3, "7/2");
        worth(47, "50+(0-7)/2");
        worth(47, "50+7/(0-2)");
        worth(53, "50+(0-7)/(0-2)");
        worth(1, "7%2");
        worth(49, "50+(0-7)%2");
        worth(51, "50+7%(0-2)");
        worth(49, "50+(0-7)%(0-2)");
        worth(0, "0/5");
        for (String zero : new String[] {"0", "(3-3)", "hour", "(not 1)"}) {
            worth(8, "8+5/" + zero);
            worth(8, "8+5%" + zero);
            worth(8, "8+0/" + zero);
            worth(8, "8+(0-5)%" + zero);
        }
        String[] sides = {"1<2", "2<2", "2<1", "1=2", "2=2", "2>1", "2>2", "1>2", "(0-1)<0", "0=0"};
        int[] due = {1, 0, 0, 0, 1, 1, 0, 0, 1, 1};
        for (int i = 0; i < sides.length; i++) {
            worth(due[i], sides[i]);
            worth(7 + due[i], "7+(" + sides[i] + ")");
            worth(1 - due[i], "not " + sides[i]);
        }
        String[] values = {"0", "1", "5", "(0-1)", "(0-2048*1024*1024)"};
        for (String a : values) {
            worth(a.equals("0") ? 1 : 0, "not " + a);
            worth(a.equals("0") ? 0 : 1, "not not " + a);
            for (String b : values) {
                worth(a.equals("0") || b.equals("0") ? 0 : 1, a + " and " + b);
                worth(a.equals("0") && b.equals("0") ? 0 : 1, a + " or " + b);
            }
        }
    }

    private void cutChirps() {
        e.says("Terms", "0 at least, 99 at most; of one that is FREE 0.");
        int[] told = {0, 1, 98, 99, 100, 9999};
        int[] due = {0, 1, 98, 99, 99, 99};
        for (int i = 0; i < told.length; i++) {
            worth(due[i], told[i] + "");
        }
        worth(0, "0-1");
        worth(0, "0-2048*1024*1024");
        worth(99, "2048*1024*1024-1");
        CricketHay x = ages("", 99, 50);
        e.due("CHIRPS of one that is there", 99, x.dealer(0, 9));
        x.free(0);
        e.due("CHIRPS of one that is FREE", 0, x.dealer(0, 9));
        e.due("CHIRPS of the other one", 50, x.dealer(1, 9));
    }

    private void priceTerm() {
        e.says("Terms", "PRICE of a load between two DEALERS: CHIRPS of both together by 2 (cut).");
        int[][] chirps = {{0, 0, 0}, {0, 1, 0}, {1, 1, 1}, {1, 2, 1}, {98, 99, 98}, {99, 99, 99},
            {0, 99, 49}};
        for (int[] c : chirps) {
            e.due("PRICE by " + c[0] + " and " + c[1], c[2], ages("", c[0], c[1]).price(0, 1));
            e.due("PRICE by " + c[1] + " and " + c[0], c[2], ages("", c[0], c[1]).price(1, 0));
        }
        CricketHay x = ages("", 99, 99);
        x.free(0);
        e.due("PRICE with one that is FREE", 49, x.price(0, 1));
        x.free(1);
        e.due("PRICE of two that are FREE", 0, x.price(0, 1));
    }

    // ---- Promises 6 to 11 ----

    private static final int[] FAR = {Integer.MIN_VALUE, -1, 3, 6, Integer.MAX_VALUE};

    private static final Supplier<CricketHay> THREE = () -> Texts.of("kind j;kind k;"
        + "dealer a of k song 1 age 2 gold 22 loads 5 needs 2;"
        + "dealer b of k song 3 gold 50 loads 9 needs 4;"
        + "dealer c of j song 7 age 99 gold 24 needs 3;");

    private void dealer() {
        e.says("Promise 6: dealer", "Of a DEALER what 0: gold, 1: loads, 2: needs, 3: HUNGER, 4: his "
            + "cricket's KIND, 5: song, 6: age, 7: BREATH, 8: 1 if FREE, else 0, 9: CHIRPS, 10: "
            + "mates; -100 if there is none such, or for another what.");
        CricketHay x = THREE.get();
        hours(x, 24);
        x.breathe(1, -4);
        x.free(0);
        int[][] due = {{22, 3, 2, 0, 1, 1, 3, 0, 1, 0, 1}, {50, 5, 4, 0, 1, 3, 1, -4, 0, 19, 0},
            {24, 0, 3, 3, 0, 7, 99, 0, 0, 27, 0}};
        for (int d = 0; d < due.length; d++) {
            for (int what = 0; what <= 10; what++) {
                e.due("dealer(" + d + ", " + what + ")", due[d][what], x.dealer(d, what));
            }
            for (int what : new int[] {Integer.MIN_VALUE, -1, 11, Integer.MAX_VALUE}) {
                e.due("dealer(" + d + ", " + what + ")", -100, x.dealer(d, what));
            }
        }
        for (int d : FAR) {
            for (int what = -1; what <= 11; what++) {
                e.due("dealer(" + d + ", " + what + ")", -100, x.dealer(d, what));
            }
        }
        e.due("dealer(0, 0) of none", -100, Texts.of("kind k;").dealer(0, 0));
    }

    private void heat() {
        e.says("Promise 7: heat", "HEAT now.");
        CricketHay x = Texts.of("heat 30+hour;snap 100 of 3;");
        e.due("heat()", 30, x.heat());
        x.hour();
        e.due("heat() behind an HOUR", 31 - 3, x.heat());
        x.undo();
        e.due("heat() undone", 30, x.heat());
        e.due("heat() of none told", 20, new CricketHay().heat());
    }

    private void price() {
        e.says("Promise 8: price", "PRICE; NONE if both are one, or one can't be.");
        int[][] due = {{-1, 22, 24}, {22, -1, 25}, {24, 25, -1}};
        CricketHay x = THREE.get();
        for (int a = 0; a < 3; a++) {
            for (int b = 0; b < 3; b++) {
                e.due("price(" + a + ", " + b + ")", due[a][b], x.price(a, b));
            }
            for (int b : FAR) {
                e.due("price(" + a + ", " + b + ")", -1, x.price(a, b));
                e.due("price(" + b + ", " + a + ")", -1, x.price(b, a));
                e.due("price(" + b + ", " + b + ")", -1, x.price(b, b));
            }
        }
        e.due("price(0, 1) of one alone", -1, ages("", 5).price(0, 1));
    }

    private void cheapest() {
        e.says("Promise 9: cheapest", "From whom a DEALER would buy a load at the least PRICE (who "
            + "has some; his gold must do); of like ones the first; NONE if there is none, or no such"
            + " DEALER.");
        e.due("with just the gold", 1, ages(" gold 20 loads 1", 10, 30).cheapest(0));
        e.due("with one gold too few", -1, ages(" gold 19 loads 1", 10, 30).cheapest(0));
        e.due("for nothing", 1, ages(" loads 1", 0, 1).cheapest(0));
        e.due("the only load is his own", -1, Texts.of("kind k;dealer a of k song 1 gold 99 loads 9;"
            + "dealer b of k song 1;").cheapest(0));
        e.due("a single load", 1, Texts.of("kind k;dealer a of k song 1 gold 99;"
            + "dealer b of k song 1 loads 1;").cheapest(0));
        e.due("one alone", -1, ages(" gold 99 loads 9", 5).cheapest(0));
        CricketHay x = ages(" gold 99 loads 1", 30, 20, 10, 11, 10, 9);
        e.due("the last one, at 19", 5, x.cheapest(0));
        e.due("the last one, by one's own 9", 2, x.cheapest(5));
        e.due("of like ones the first, cut alike", 0,
            ages(" gold 9 loads 1", 2, 1, 2, 1).cheapest(3));
        x = ages(" gold 99 loads 1", 30, 12, 10, 10, 12, 10);
        e.due("of like ones the first", 2, x.cheapest(0));
        e.due("of like ones the first, he being another one", 3, x.cheapest(2));
        e.due("of like ones the first, at the end", 2, x.cheapest(5));
        for (int d : FAR) {
            e.due("cheapest(" + d + ")", -1, THREE.get().cheapest(d));
        }
    }

    private void chorus() {
        e.says("Promise 10: chorus", "CHIRPS of all crickets together.");
        e.due("none", 0, Texts.of("kind k;").chorus());
        e.due("one", 7, ages("", 7).chorus());
        CricketHay x = ages("", 99, 99, 99, 99, 99, 99);
        e.due("the most", 594, x.chorus());
        x.free(5);
        e.due("one is FREE", 495, x.chorus());
        for (int i = 0; i < 5; i++) {
            x.free(i);
        }
        e.due("all are FREE", 0, x.chorus());
    }

    private void lasts() {
        e.says("Promise 11: lasts", "Behind how many days (0: at the next day's beginning) a DEALER's"
            + " loads do not do for his beasts, if nothing is bought or sold; NONE if they need "
            + "nothing, or there is none such.");
        int[][] cases = {{0, 1}, {1, 1}, {2, 1}, {99, 1}, {99, 9}, {98, 9}, {4, 5}, {5, 5}, {9, 5},
            {10, 5}, {0, 9}};
        for (int[] c : cases) {
            CricketHay x = Texts.of("kind k;dealer a of k song 1 loads " + c[0] + " needs " + c[1]
                + ";");
            int days = c[0] / c[1];
            e.due("lasts by " + c[0] + " of " + c[1] + " a day", days, x.lasts(0));
            for (int day = 0; day <= days && days < 12; day++) {
                e.due("HUNGER on day " + day, 0, x.dealer(0, 3));
                hours(x, 24);
            }
            e.due("HUNGER then", days < 12, x.dealer(0, 3) > 0);
        }
        e.due("they need nothing", -1, ages(" loads 9", 1).lasts(0));
        e.due("they need nothing, none is there", -1, ages("", 1).lasts(0));
        for (int d : FAR) {
            e.due("lasts(" + d + ")", -1, THREE.get().lasts(d));
        }
    }
}
