import java.util.function.Supplier;

/** Edges of hours and acts: the terms' second part from "An HOUR" on, promises 12 to 17. */
final class ActEdges {
    private final Edges e;

    private ActEdges(Edges e) {
        this.e = e;
    }

    static void all(Edges e) {
        ActEdges edges = new ActEdges(e);
        edges.seed();
        edges.cold();
        edges.hourGoesUp();
        edges.loadsAndHunger();
        edges.ages();
        edges.buyTerm();
        edges.breatheTerm();
        edges.undoTerm();
        edges.forty();
        edges.buy();
        edges.breathe();
        edges.free();
        edges.hour();
        edges.undo();
        edges.redo();
    }

    private static void hours(CricketHay x, int many) {
        for (int i = 0; i < many; i++) {
            x.hour();
        }
    }

    // ---- Terms ----

    private void seed() {
        e.says("Terms", "An HOUR: the SEED (draw, at first) becomes its 137-fold and 71 more, modulo "
            + "1,000;");
        int[][] seeds = {{0, 71}, {1, 208}, {9, 304}, {999, 934}, {6, 893}, {7, 30}, {777, 520}};
        for (int[] s : seeds) {
            CricketHay x = Texts.of("draw " + s[0] + ";");
            e.due("SEED of draw " + s[0], s[0], x.about(5));
            x.hour();
            e.due("SEED behind " + s[0], s[1], x.about(5));
        }
        e.due("SEED, draw not told", 0, Texts.of("cart 1;").about(5));
    }

    private static int coldBehind(String text) {
        CricketHay x = Texts.of(text);
        x.hour();
        return x.about(6);
    }

    private void cold() {
        e.says("Terms", "the COLD is 1 less (0 at least); if the SEED's rest by 100 is less than snap"
            + " tells, so much more as is told (40 at most);");
        // Behind draw 9 the SEED is 304, behind 44 it is 99, behind 17 it is 400.
        e.due("rest 4 by 4", 0, coldBehind("draw 9;snap 4 of 7;"));
        e.due("rest 4 by 5", 7, coldBehind("draw 9;snap 5 of 7;"));
        e.due("rest 99 by 99", 0, coldBehind("draw 44;snap 99 of 7;"));
        e.due("rest 99 by 100", 7, coldBehind("draw 44;snap 100 of 7;"));
        e.due("rest 0 by 0", 0, coldBehind("draw 17;snap 0 of 7;"));
        e.due("rest 0 by 1", 7, coldBehind("draw 17;snap 1 of 7;"));
        e.due("rest 0, not told", 0, coldBehind("draw 17;"));
        // SEEDS from 9: 304, 719, 574, 709, 204.
        CricketHay x = Texts.of("draw 9;snap 5 of 2;");
        for (int cold : new int[] {2, 1, 0, 0, 2}) {
            x.hour();
            e.due("COLD that goes by 1", cold, x.about(6));
        }
        x = Texts.of("snap 100 of 20;");
        for (int cold : new int[] {20, 39, 40, 40}) {
            x.hour();
            e.due("COLD by 20 more", cold, x.about(6));
        }
        x = Texts.of("snap 100 of 2;");
        for (int i = 1; i <= 45; i++) {
            x.hour();
            e.due("COLD by 2 more, less 1, behind " + i, Math.min(40, i + 1), x.about(6));
        }
    }

    private void hourGoesUp() {
        e.says("Terms", "all BREATHS are 0; the HOUR goes up by 1; behind 23 it is 0 and the day 1 "
            + "more:");
        CricketHay x = Texts.of("kind k;dealer a of k song 1;dealer b of k song 1;"
            + "dealer c of k song 1;");
        x.breathe(0, 5);
        x.breathe(1, -5);
        x.breathe(2, 1);
        x.free(2);
        for (int i = 1; i <= 49; i++) {
            x.hour();
            e.due("HOUR behind " + i, i % 24, x.about(3));
            e.due("day behind " + i, i / 24, x.about(4));
            for (int d = 0; d < 3; d++) {
                e.due("BREATH of " + d + " behind " + i, 0, x.dealer(d, 7));
            }
        }
    }

    private void loadsAndHunger() {
        e.says("Terms", "each DEALER's loads are less by what his beasts need, or, if he has not so "
            + "many, none are left, and his HUNGER is more by what is lacking;");
        int[][] told = {{4, 3}, {3, 3}, {2, 3}, {0, 9}, {0, 0}, {99, 0}};
        StringBuilder text = new StringBuilder("kind k;");
        for (int i = 0; i < told.length; i++) {
            text.append("dealer ").append((char) ('a' + i)).append(" of k song 1 loads ")
                .append(told[i][0]).append(" needs ").append(told[i][1]).append(';');
        }
        CricketHay x = Texts.of(text.toString());
        int[][] loads = {{4, 3, 2, 0, 0, 99}, {1, 0, 0, 0, 0, 99}, {0, 0, 0, 0, 0, 99}};
        int[][] hunger = {{0, 0, 0, 0, 0, 0}, {0, 0, 1, 9, 0, 0}, {2, 3, 4, 18, 0, 0}};
        for (int day = 0; day < 3; day++) {
            for (int d = 0; d < told.length; d++) {
                e.due("loads of " + d + " on day " + day, loads[day][d], x.dealer(d, 1));
                e.due("HUNGER of " + d + " on day " + day, hunger[day][d], x.dealer(d, 3));
            }
            hours(x, 23);
            for (int d = 0; d < told.length; d++) {
                e.due("loads of " + d + " in HOUR 23", loads[day][d], x.dealer(d, 1));
                e.due("HUNGER of " + d + " in HOUR 23", hunger[day][d], x.dealer(d, 3));
            }
            x.hour();
        }
    }

    private void ages() {
        e.says("Terms", "each cricket's age is 1 more (99 at most).");
        CricketHay x = Texts.of("kind k;dealer a of k song 1;dealer b of k song 1 age 97;"
            + "dealer c of k song 1 age 98;dealer d of k song 1 age 99;dealer e of k song 1 age 98;");
        x.free(4);
        int[][] due = {{0, 97, 98, 99, 98}, {1, 98, 99, 99, 99}, {2, 99, 99, 99, 99},
            {3, 99, 99, 99, 99}};
        for (int day = 0; day < 4; day++) {
            for (int d = 0; d < 5; d++) {
                e.due("age of " + d + " on day " + day, due[day][d], x.dealer(d, 6));
            }
            hours(x, 23);
            e.due("age in HOUR 23 of day " + day, day, x.dealer(0, 6));
            x.hour();
        }
    }

    /** At heat 20 both sing 21, so that a load costs 21. */
    private static Supplier<CricketHay> two(int gold, int loads, String more) {
        return () -> Texts.of("kind k;dealer a of k song 1 gold " + gold + " loads 2;"
            + "dealer b of k song 1 gold 7 loads " + loads + ";" + more);
    }

    private void sold(int gold, int loads, String more, int many) {
        CricketHay x = two(gold, loads, more).get();
        String call = "buy(0, 1, " + many + ") " + more;
        e.due(call, 21 * many, x.buy(0, 1, many));
        e.due(call + ", his gold", gold - 21 * many, x.dealer(0, 0));
        e.due(call + ", his loads", 2 + many, x.dealer(0, 1));
        e.due(call + ", the other one's gold", 7 + 21 * many, x.dealer(1, 0));
        e.due(call + ", the other one's loads", loads - many, x.dealer(1, 1));
    }

    private void buyTerm() {
        e.says("Terms", "ACTS: a DEALER buys loads (1 .. 9, no more than the cart takes, and than the"
            + " other one has) from another one, and pays the PRICE of each, if he has it;");
        sold(999, 99, "cart 9;", 1);
        sold(999, 99, "cart 9;", 9);
        e.refused("buy 0", -1, two(999, 99, "cart 9;"), x -> x.buy(0, 1, 0));
        e.refused("buy 10", -1, two(999, 99, "cart 9;"), x -> x.buy(0, 1, 10));
        for (int cart = 1; cart < 9; cart++) {
            int more = cart + 1;
            sold(999, 99, "cart " + cart + ";", cart);
            e.refused("buy " + more, -1, two(999, 99, "cart " + cart + ";"),
                x -> x.buy(0, 1, more));
        }
        sold(999, 99, "", 3);
        e.refused("buy 4, cart not told", -1, two(999, 99, ""), x -> x.buy(0, 1, 4));
        sold(999, 1, "cart 9;", 1);
        sold(999, 5, "cart 9;", 5);
        e.refused("buy 6 of 5", -1, two(999, 5, "cart 9;"), x -> x.buy(0, 1, 6));
        e.refused("buy 1 of none", -1, two(999, 0, "cart 9;"), x -> x.buy(0, 1, 1));
        sold(21, 9, "", 1);
        sold(63, 9, "", 3);
        e.refused("buy 1 by 20 gold", -1, two(20, 9, ""), x -> x.buy(0, 1, 1));
        e.refused("buy 3 by 62 gold", -1, two(62, 9, ""), x -> x.buy(0, 1, 3));
        e.refused("buy of himself", -1, two(999, 9, ""), x -> x.buy(0, 0, 1));
        CricketHay x = two(0, 9, "chirps 1-mates;").get();
        e.due("buy for nothing", 0, x.buy(0, 1, 3));
        e.due("his loads", 5, x.dealer(0, 1));
    }

    private void breatheTerm() {
        e.says("Terms", "he breathes on his cricket (-5 .. 5: its BREATH); he sets it free; an HOUR.");
        for (int breath = -5; breath <= 5; breath++) {
            if (breath != 0) {
                CricketHay x = two(0, 0, "").get();
                e.due("breathe " + breath, 0, x.breathe(1, breath));
                e.due("its BREATH", breath, x.dealer(1, 7));
                e.due("the other one's BREATH", 0, x.dealer(0, 7));
                e.due("its CHIRPS", 21 + breath, x.dealer(1, 9));
            }
        }
        for (int breath : new int[] {-6, 6, Integer.MIN_VALUE, Integer.MAX_VALUE}) {
            e.refused("breathe " + breath, -100, two(0, 0, ""), x -> x.breathe(0, breath));
        }
        CricketHay x = two(0, 0, "").get();
        x.free(0);
        e.due("who is FREE", 1, x.dealer(0, 8));
        e.due("who is not", 0, x.dealer(1, 8));
        x.hour();
        e.due("FREE behind an HOUR", 1, x.dealer(0, 8));
    }

    private void undoTerm() {
        e.says("Terms", "UNDO takes back the latest ACT that was not, REDO does that again which was "
            + "taken back last (till another ACT);");
        CricketHay x = two(99, 9, "snap 100 of 3;").get();
        x.buy(0, 1, 2);
        x.breathe(0, 4);
        x.free(1);
        x.hour();
        e.due("undo() of an HOUR", true, x.undo());
        e.due("HOUR", 0, x.about(3));
        e.due("COLD", 0, x.about(6));
        e.due("SEED", 0, x.about(5));
        e.due("BREATH", 4, x.dealer(0, 7));
        e.due("undo() of setting free", true, x.undo());
        e.due("FREE", 0, x.dealer(1, 8));
        e.due("redo() of that which was taken back last", true, x.redo());
        e.due("FREE again", 1, x.dealer(1, 8));
        e.due("HOUR still", 0, x.about(3));
        e.due("undo() of it", true, x.undo());
        e.due("undo() of a BREATH", true, x.undo());
        e.due("BREATH", 0, x.dealer(0, 7));
        e.due("gold", 57, x.dealer(0, 0));
        e.due("undo() of a sale", true, x.undo());
        e.due("gold ahead of it", 99, x.dealer(0, 0));
        e.due("loads ahead of it", 9, x.dealer(1, 1));
        e.due("undo() of no more", false, x.undo());
        // What is no ACT, or is refused, lets the undone ones be.
        x = two(99, 9, "").get();
        x.breathe(0, 1);
        x.breathe(0, 2);
        x.undo();
        x.undo();
        x.buy(0, 1, 4);
        x.breathe(0, 0);
        x.free(2);
        x.image(1);
        x.will(0, 1, 60);
        x.plan(0, 1, 2, 2);
        e.due("ACTS to redo", 2, x.about(8));
        e.due("redo() behind what was refused", true, x.redo());
        e.due("BREATH of the first one", 1, x.dealer(0, 7));
        x.breathe(1, 3);
        e.due("redo() behind another ACT", false, x.redo());
        e.due("ACTS to undo", 2, x.about(7));
        e.due("BREATH as it was", 1, x.dealer(0, 7));
    }

    /** Another BREATH than the eight acts around it leave. */
    private static int breath(int act) {
        return act % 9 - 4;
    }

    private void forty() {
        e.says("Terms", "40 at most are kept, the oldest go.");
        for (int acts : new int[] {39, 40, 41, 42, 85}) {
            CricketHay x = two(0, 0, "").get();
            x.breathe(0, 5);
            for (int i = 1; i < acts; i++) {
                x.breathe(0, breath(i));
            }
            int kept = Math.min(40, acts);
            e.due("ACTS to undo of " + acts, kept, x.about(7));
            for (int i = 1; i <= kept; i++) {
                e.due("undo() " + i + " of " + acts, true, x.undo());
                int left = acts - 1 - i;
                e.due("BREATH behind it", left < 0 ? 0 : left == 0 ? 5 : breath(left),
                    x.dealer(0, 7));
                e.due("ACTS to redo", i, x.about(8));
            }
            e.due("one more undo() of " + acts, false, x.undo());
            for (int i = 1; i <= kept; i++) {
                e.due("redo() " + i + " of " + acts, true, x.redo());
            }
            e.due("one more redo() of " + acts, false, x.redo());
            e.due("BREATH of the latest of " + acts, breath(acts - 1), x.dealer(0, 7));
        }
        CricketHay x = two(0, 0, "").get();
        hours(x, 40);
        for (int i = 0; i < 40; i++) {
            x.undo();
        }
        x.free(0);
        e.due("ACTS to undo, forty taken back", 1, x.about(7));
        e.due("ACTS to redo, forty taken back", 0, x.about(8));
        hours(x, 39);
        e.due("forty once more", 40, x.about(7));
        hours(x, 1);
        e.due("setting free has gone", 40, x.about(7));
        for (int i = 0; i < 40; i++) {
            x.undo();
        }
        e.due("it can't be undone", 1, x.dealer(0, 8));
    }

    // ---- Promises 12 to 17 ----

    private static final int[] FAR = {Integer.MIN_VALUE, -1, 2, 6, Integer.MAX_VALUE};

    private void buy() {
        e.says("Promise 12: buy", "Loads are bought from another one: what is paid; NONE, doing "
            + "nothing, if one can't be. (An ACT.)");
        CricketHay x = two(42, 2, "").get();
        e.due("buy(0, 1, 2), all gold, all loads", 42, x.buy(0, 1, 2));
        e.due("ACTS", 1, x.about(7));
        e.due("buy(1, 0, 1), back", 21, x.buy(1, 0, 1));
        e.due("ACTS", 2, x.about(7));
        Supplier<CricketHay> rich = two(9999, 99, "cart 9;");
        for (int far : FAR) {
            e.refused("buy(0, " + far + ", 1)", -1, rich, y -> y.buy(0, far, 1));
            e.refused("buy(" + far + ", 1, 1)", -1, rich, y -> y.buy(far, 1, 1));
            e.refused("buy(" + far + ", " + far + ", 1)", -1, rich, y -> y.buy(far, far, 1));
        }
        for (int many : new int[] {Integer.MIN_VALUE, -1, 0, 10, 99, Integer.MAX_VALUE}) {
            e.refused("buy(0, 1, " + many + ")", -1, rich, y -> y.buy(0, 1, many));
        }
        e.refused("buy(1, 1, 1)", -1, rich, y -> y.buy(1, 1, 1));
        e.refused("buy(1, 0, 1), without the gold", -1, rich, y -> y.buy(1, 0, 1));
        e.due("buy(0, 1, 9)", 189, rich.get().buy(0, 1, 9));
    }

    private static CricketHay breathed() {
        CricketHay x = two(99, 9, "").get();
        x.breathe(0, 3);
        x.free(1);
        x.hour();
        x.undo();
        return x;
    }

    private void breathe() {
        e.says("Promise 13: breathe", "He breathes: the BREATH that was; -100, doing nothing, if it "
            + "is the same, his cricket is FREE, or one can't be. (An ACT.)");
        CricketHay x = breathed();
        e.due("breathe(0, -5)", 3, x.breathe(0, -5));
        e.due("ACTS to undo", 3, x.about(7));
        e.due("ACTS to redo", 0, x.about(8));
        e.due("breathe(0, 5)", -5, x.breathe(0, 5));
        e.due("breathe(0, 0)", 5, x.breathe(0, 0));
        e.due("breathe(0, 4)", 0, x.breathe(0, 4));
        e.refused("breathe(0, 3), the same", -100, ActEdges::breathed, y -> y.breathe(0, 3));
        e.refused("breathe(0, 0), the same at first", -100, two(0, 0, ""), y -> y.breathe(0, 0));
        e.refused("breathe(1, 1), FREE", -100, ActEdges::breathed, y -> y.breathe(1, 1));
        e.refused("breathe(1, 0), FREE and the same", -100, ActEdges::breathed,
            y -> y.breathe(1, 0));
        for (int breath : new int[] {Integer.MIN_VALUE, -100, -6, 6, 99, Integer.MAX_VALUE}) {
            e.refused("breathe(0, " + breath + ")", -100, ActEdges::breathed,
                y -> y.breathe(0, breath));
        }
        for (int far : FAR) {
            e.refused("breathe(" + far + ", 1)", -100, ActEdges::breathed, y -> y.breathe(far, 1));
        }
    }

    private void free() {
        e.says("Promise 14: free", "He sets it free: its CHIRPS that were; NONE, doing nothing, if it"
            + " is FREE already, or there is none such. (An ACT.)");
        CricketHay x = breathed();
        e.due("free(0)", 24, x.free(0));
        e.due("ACTS to undo", 3, x.about(7));
        e.due("ACTS to redo", 0, x.about(8));
        x = two(0, 0, "chirps mates*50;").get();
        e.due("free(1), its mate is there", 50, x.free(1));
        e.due("free(0), its mate is FREE", 0, x.free(0));
        x = two(0, 0, "chirps 999;").get();
        e.due("free(0) of the most CHIRPS", 99, x.free(0));
        e.refused("free(1), FREE already", -1, ActEdges::breathed, y -> y.free(1));
        for (int far : FAR) {
            e.refused("free(" + far + ")", -1, ActEdges::breathed, y -> y.free(far));
        }
        e.refused("free(0) of none", -1, () -> Texts.of("kind k;"), y -> y.free(0));
    }

    /** More calls than are promised: 512 don't go so far. */
    private static CricketHay atTheEnd() {
        CricketHay x = Texts.of("kind k;dealer a of k song 1 loads 9 needs 1;dealer b of k song 2;");
        hours(x, 24 * 1000 - 1);
        return x;
    }

    private void hour() {
        e.says("Promise 15: hour", "An HOUR: HEAT then; NONE, doing nothing, in HOUR 23 of day 999. "
            + "(An ACT.)");
        CricketHay x = Texts.of("heat 10+hour;snap 100 of 3;");
        e.due("hour()", 11 - 3, x.hour());
        e.due("ACTS", 1, x.about(7));
        e.due("hour() once more", 12 - 5, x.hour());
        x = Texts.of("heat hour;");
        for (int i = 1; i <= 48; i++) {
            e.due("hour() " + i, i % 24, x.hour());
        }
        x = atTheEnd();
        e.due("day", 999, x.about(4));
        e.due("HOUR", 23, x.about(3));
        e.refused("hour() in HOUR 23 of day 999", -1, ActEdges::atTheEnd, CricketHay::hour);
        e.due("undo() there", true, x.undo());
        e.due("HOUR 22", 22, x.about(3));
        e.due("hour() in HOUR 22 of day 999", 20, x.hour());
        for (int i = 0; i < 24; i++) {
            x.undo();
        }
        e.due("day ahead of it", 998, x.about(4));
        e.due("HOUR ahead of it", 23, x.about(3));
        e.due("hour() in HOUR 23 of day 998", 20, x.hour());
        e.due("day behind it", 999, x.about(4));
    }

    private void undo() {
        e.says("Promise 16: undo", "UNDO: true; false if there is none.");
        e.refused("undo() of none", 0, two(9, 9, ""), x -> x.undo() ? 1 : 0);
        e.refused("undo() of none, in a new object", 0, CricketHay::new, x -> x.undo() ? 1 : 0);
        CricketHay x = breathed();
        e.due("undo()", true, x.undo());
        e.due("undo() of the first one", true, x.undo());
        e.due("undo() of no more", false, x.undo());
        e.due("ACTS to redo", 3, x.about(8));
        x.image(0);
        x.breathe(0, 1);
        x.back(0);
        e.due("undo() behind back()", false, x.undo());
    }

    private void redo() {
        e.says("Promise 17: redo", "REDO: true; false if there is none.");
        e.refused("redo() of none", 0, two(9, 9, ""), x -> x.redo() ? 1 : 0);
        Supplier<CricketHay> acted = () -> {
            CricketHay x = two(9, 9, "").get();
            x.breathe(0, 1);
            return x;
        };
        e.refused("redo() of none taken back", 0, acted, x -> x.redo() ? 1 : 0);
        CricketHay x = breathed();
        e.due("redo()", true, x.redo());
        e.due("HOUR", 1, x.about(3));
        e.due("redo() of no more", false, x.redo());
        e.due("ACTS to undo", 3, x.about(7));
        x.undo();
        x.image(0);
        x.back(0);
        e.due("redo() behind back()", false, x.redo());
    }
}
