/** Promises 12 to 17: acts, undone and redone. */
final class ActsTest {
    private static final Check CHECK = new Check("ActsTest");

    // Sung at heat 20: 21, 23, 27, so that prices are 22, 24, 25.
    private static final String THREE = "kind k;kind j;"
        + "dealer a of k song 1 age 2 gold 66 loads 5 needs 2;"
        + "dealer b of k song 3 gold 50 loads 9 needs 4;"
        + "dealer c of j song 7 age 99 gold 24 needs 3;cart 4;";

    public static void main(String[] args) {
        buy();
        breathe();
        free();
        hour();
        daysEnd();
        snaps();
        lastHour();
        undo();
        redo();
        onlyForty();
        CHECK.end();
    }

    private static void has(String when, CricketHay x, int dealer, int gold, int loads) {
        CHECK.due(when + ": gold of " + dealer, gold, x.dealer(dealer, 0));
        CHECK.due(when + ": loads of " + dealer, loads, x.dealer(dealer, 1));
    }

    private static void buy() {
        CricketHay x = Texts.of(THREE);
        int[][] wrong = {{0, 0, 1}, {0, 3, 1}, {3, 0, 1}, {-1, 0, 1}, {0, -1, 1}, {0, 1, 0},
            {0, 1, -1}, {0, 1, 4}, {0, 1, 5}, {0, 1, 10}, {0, 1, Integer.MAX_VALUE},
            {0, 1, Integer.MIN_VALUE}, {1, 2, 1}, {2, 0, 2}};
        for (int[] w : wrong) {
            CHECK.due("buy(" + w[0] + ", " + w[1] + ", " + w[2] + ")", -1, x.buy(w[0], w[1], w[2]));
        }
        CHECK.due("no ACT was done", 0, x.about(7));
        CHECK.due("buy(0, 1, 3) for all his gold", 66, x.buy(0, 1, 3));
        has("bought", x, 0, 0, 8);
        has("bought", x, 1, 116, 6);
        has("bought", x, 2, 24, 0);
        CHECK.due("an ACT", 1, x.about(7));
        CHECK.due("buy(1, 0, 5), more than the cart takes", -1, x.buy(1, 0, 5));
        CHECK.due("buy(1, 0, 4)", 88, x.buy(1, 0, 4));
        has("back", x, 0, 88, 4);
        has("back", x, 1, 28, 10);
        x = Texts.of("kind k;dealer a of k song 1 gold 9999;dealer b of k song 1 loads 2;cart 9;");
        CHECK.due("more than the other one has", -1, x.buy(0, 1, 3));
        CHECK.due("all that the other one has", 42, x.buy(0, 1, 2));
        CHECK.due("none is left", -1, x.buy(0, 1, 1));
        x = Texts.of("kind k;dealer a of k song 1;dealer b of k song 1 loads 9;cart 9;chirps 0;");
        CHECK.due("for nothing", 0, x.buy(0, 1, 9));
        has("for nothing", x, 0, 0, 9);
    }

    private static void breathe() {
        CricketHay x = Texts.of(THREE);
        CHECK.due("breathe(0, 0), the same", -100, x.breathe(0, 0));
        CHECK.due("breathe(0, 6)", -100, x.breathe(0, 6));
        CHECK.due("breathe(0, -6)", -100, x.breathe(0, -6));
        CHECK.due("breathe(3, 1)", -100, x.breathe(3, 1));
        CHECK.due("breathe(-1, 1)", -100, x.breathe(-1, 1));
        CHECK.due("no ACT was done", 0, x.about(7));
        CHECK.due("breathe(0, 5)", 0, x.breathe(0, 5));
        CHECK.due("its BREATH", 5, x.dealer(0, 7));
        CHECK.due("breathe(0, -5)", 5, x.breathe(0, -5));
        CHECK.due("breathe(0, -5) again", -100, x.breathe(0, -5));
        CHECK.due("breathe(0, 0)", -5, x.breathe(0, 0));
        CHECK.due("ACTS", 3, x.about(7));
        x.free(1);
        CHECK.due("breathe on a FREE one", -100, x.breathe(1, 1));
        CHECK.due("its BREATH as it was", 0, x.dealer(1, 7));
    }

    private static void free() {
        CricketHay x = Texts.of(THREE + "chirps mates*10+song;");
        CHECK.due("free(3)", -1, x.free(3));
        CHECK.due("free(-1)", -1, x.free(-1));
        CHECK.due("free(0)", 11, x.free(0));
        CHECK.due("free(0) again", -1, x.free(0));
        CHECK.due("ACTS", 1, x.about(7));
        CHECK.due("free(1), now without mates", 3, x.free(1));
        CHECK.due("all but one are silent", 7, x.chorus());
    }

    private static void hour() {
        CricketHay x = Texts.of(THREE + "heat 30-hour;draw 999;");
        x.breathe(0, 5);
        x.breathe(2, -1);
        CHECK.due("hour()", 29, x.hour());
        CHECK.due("the HOUR", 1, x.about(3));
        CHECK.due("the SEED", (999 * 137 + 71) % 1000, x.about(5));
        CHECK.due("the BREATH of 0", 0, x.dealer(0, 7));
        CHECK.due("the BREATH of 2", 0, x.dealer(2, 7));
        CHECK.due("ACTS", 3, x.about(7));
        for (int i = 2; i < 24; i++) {
            CHECK.due("hour() to " + i, 30 - i, x.hour());
        }
        CHECK.due("no day yet", 0, x.about(4));
        CHECK.due("no load is eaten yet", 5, x.dealer(0, 1));
        CHECK.due("hour() to 0", 30, x.hour());
        CHECK.due("the HOUR", 0, x.about(3));
        CHECK.due("the day", 1, x.about(4));
    }

    private static void daysEnd() {
        CricketHay x = Texts.of(THREE);
        x.free(0);
        int[][] loads = {{3, 5, 0}, {1, 1, 0}, {0, 0, 0}, {0, 0, 0}};
        int[][] hunger = {{0, 0, 3}, {0, 0, 6}, {1, 3, 9}, {3, 7, 12}};
        for (int day = 0; day < 4; day++) {
            for (int i = 0; i < 24; i++) {
                x.hour();
            }
            for (int d = 0; d < 3; d++) {
                CHECK.due("loads of " + d + " on day " + (day + 1), loads[day][d], x.dealer(d, 1));
                CHECK.due("HUNGER of " + d + " on day " + (day + 1), hunger[day][d],
                    x.dealer(d, 3));
            }
            CHECK.due("age of a FREE one on day " + (day + 1), 3 + day, x.dealer(0, 6));
            CHECK.due("age of 1 on day " + (day + 1), 1 + day, x.dealer(1, 6));
            CHECK.due("the greatest age on day " + (day + 1), 99, x.dealer(2, 6));
        }
    }

    private static void snaps() {
        // Seeds from 9: 304, 719, 574, 709, 204, 19, 674: a snap when the rest is below 20.
        CricketHay x = Texts.of("heat 40;snap 20 of 10;draw 9;");
        int[] seeds = {304, 719, 574, 709, 204, 19, 674};
        int[] colds = {10, 19, 18, 27, 36, 40, 39};
        for (int i = 0; i < seeds.length; i++) {
            CHECK.due("HEAT behind hour " + (i + 1), 40 - colds[i], x.hour());
            CHECK.due("SEED behind hour " + (i + 1), seeds[i], x.about(5));
            CHECK.due("COLD behind hour " + (i + 1), colds[i], x.about(6));
        }
        x = Texts.of("snap 19 of 10;draw 9;");
        int[] fewer = {10, 9, 8, 17, 26, 25, 24};
        for (int i = 0; i < fewer.length; i++) {
            x.hour();
            CHECK.due("COLD by 19 of 100 behind hour " + (i + 1), fewer[i], x.about(6));
        }
        x = Texts.of("snap 0 of 20;");
        x.hour();
        CHECK.due("no COLD by 0 of 100", 0, x.about(6));
    }

    /** The document's 512 calls never come so far; the object itself counts no calls. */
    private static void lastHour() {
        CricketHay x = Texts.of("kind k;dealer a of k song 1;dealer b of k song 2;chirps day%99;");
        int hours = 0;
        for (int i = 0; i < 999 * 24 + 22; i++) {
            hours += x.hour() == 20 ? 1 : 0;
        }
        CHECK.due("hours till HOUR 22 of day 999", 999 * 24 + 22, hours);
        CHECK.due("hour() to HOUR 23 of day 999", 20, x.hour());
        CHECK.due("the day", 999, x.about(4));
        CHECK.due("the HOUR", 23, x.about(3));
        CHECK.due("the age", 99, x.dealer(0, 6));
        CHECK.due("hour() in it", -1, x.hour());
        CHECK.due("the day as it was", 999, x.about(4));
        CHECK.due("the HOUR as it was", 23, x.about(3));
        CHECK.due("what goes ahead goes beyond", 1000 % 99, x.will(0, 1, 1));
    }

    private static void undo() {
        CricketHay x = Texts.of(THREE + "snap 100 of 3;");
        CHECK.due("undo() of none", false, x.undo());
        x.buy(0, 1, 1);
        x.breathe(0, 3);
        x.free(2);
        for (int i = 0; i < 24; i++) {
            x.hour();
        }
        CHECK.due("ACTS to undo", 27, x.about(7));
        CHECK.due("undo() of an hour", true, x.undo());
        CHECK.due("the day", 0, x.about(4));
        CHECK.due("the HOUR", 23, x.about(3));
        CHECK.due("loads", 6, x.dealer(0, 1));
        CHECK.due("HUNGER", 0, x.dealer(2, 3));
        CHECK.due("age", 2, x.dealer(0, 6));
        CHECK.due("ACTS to undo", 26, x.about(7));
        CHECK.due("ACTS to redo", 1, x.about(8));
        for (int i = 0; i < 23; i++) {
            x.undo();
        }
        CHECK.due("the BREATH is there again", 3, x.dealer(0, 7));
        CHECK.due("no COLD", 0, x.about(6));
        CHECK.due("the SEED", 0, x.about(5));
        CHECK.due("FREE", 1, x.dealer(2, 8));
        CHECK.due("undo() of setting free", true, x.undo());
        CHECK.due("not FREE", 0, x.dealer(2, 8));
        CHECK.due("undo() of a breath", true, x.undo());
        CHECK.due("no BREATH", 0, x.dealer(0, 7));
        CHECK.due("undo() of a sale", true, x.undo());
        has("undone", x, 0, 66, 5);
        has("undone", x, 1, 50, 9);
        CHECK.due("undo() of no more", false, x.undo());
        CHECK.due("ACTS to redo", 27, x.about(8));
    }

    private static void redo() {
        CricketHay x = Texts.of(THREE + "snap 100 of 3;");
        CHECK.due("redo() of none", false, x.redo());
        x.buy(0, 1, 1);
        x.breathe(0, 3);
        x.hour();
        x.free(2);
        CHECK.due("redo() of none undone", false, x.redo());
        for (int i = 0; i < 4; i++) {
            x.undo();
        }
        CHECK.due("redo() of a sale", true, x.redo());
        has("redone", x, 0, 44, 6);
        CHECK.due("redo() of a breath", true, x.redo());
        CHECK.due("the BREATH", 3, x.dealer(0, 7));
        CHECK.due("redo() of an hour", true, x.redo());
        CHECK.due("the COLD", 3, x.about(6));
        CHECK.due("the SEED", 71, x.about(5));
        CHECK.due("no BREATH", 0, x.dealer(0, 7));
        CHECK.due("a call that is no ACT", -1, x.buy(0, 0, 1));
        CHECK.due("ACTS to redo", 1, x.about(8));
        CHECK.due("redo() of setting free", true, x.redo());
        CHECK.due("FREE", 1, x.dealer(2, 8));
        CHECK.due("redo() of no more", false, x.redo());
        x.undo();
        x.undo();
        x.breathe(1, 1);
        CHECK.due("redo() behind another ACT", false, x.redo());
        CHECK.due("ACTS to undo", 3, x.about(7));
        CHECK.due("ACTS to redo", 0, x.about(8));
        CHECK.due("undo() of it", true, x.undo());
        CHECK.due("the BREATH of the one ahead", 3, x.dealer(0, 7));
    }

    /** The BREATH of act i, which is another one than those of ten acts around it. */
    private static int breath(int i) {
        return i % 11 - 5;
    }

    private static void onlyForty() {
        CricketHay x = Texts.of(THREE);
        for (int i = 0; i < 43; i++) {
            x.breathe(0, breath(i));
            CHECK.due("ACTS behind " + (i + 1), Math.min(40, i + 1), x.about(7));
        }
        for (int round = 0; round < 2; round++) {
            for (int i = 0; i < 40; i++) {
                CHECK.due("BREATH ahead of undo " + i, breath(42 - i), x.dealer(0, 7));
                CHECK.due("undo " + i, true, x.undo());
            }
            CHECK.due("undo 40", false, x.undo());
            CHECK.due("what the oldest three left", breath(2), x.dealer(0, 7));
            CHECK.due("ACTS to redo", 40, x.about(8));
            for (int i = 0; i < 40; i++) {
                CHECK.due("redo " + i, true, x.redo());
                CHECK.due("BREATH behind redo " + i, breath(3 + i), x.dealer(0, 7));
            }
            CHECK.due("redo 40", false, x.redo());
        }
    }
}
