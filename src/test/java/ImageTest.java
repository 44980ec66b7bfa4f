/** Promises 40 to 42: images gone on from, and what is told about. */
final class ImageTest {
    private static final Check CHECK = new Check("ImageTest");

    private static final String TWO = "kind k;"
        + "dealer a of k song 1 age 2 gold 500 loads 5 needs 2;"
        + "dealer b of k song 3 age 98 gold 50 loads 9 needs 7;snap 100 of 4;draw 8;";

    public static void main(String[] args) {
        refused();
        keepsAll();
        boxes();
        stays();
        about();
        CHECK.end();
    }

    private static void refused() {
        CricketHay x = Texts.of(TWO);
        int[] wrong = {-1, 3, Integer.MAX_VALUE, Integer.MIN_VALUE};
        for (int w : wrong) {
            CHECK.due("image(" + w + ")", -1, x.image(w));
            CHECK.due("back(" + w + ")", -1, x.back(w));
        }
        x.breathe(0, 1);
        for (int box = 0; box < 3; box++) {
            CHECK.due("back(" + box + ") of nothing", -1, x.back(box));
        }
        CHECK.due("ACTS are kept", 1, x.about(7));
        CHECK.due("the BREATH", 1, x.dealer(0, 7));
    }

    private static int[] all(CricketHay x) {
        int[] all = new int[26];
        for (int what = 0; what <= 10; what++) {
            all[what] = x.dealer(0, what);
            all[11 + what] = x.dealer(1, what);
        }
        for (int what = 3; what <= 6; what++) {
            all[19 + what] = x.about(what);
        }
        return all;
    }

    private static void keepsAll() {
        CricketHay x = Texts.of(TWO);
        for (int i = 0; i < 49; i++) {
            x.hour();
        }
        x.free(1);
        x.breathe(0, -3);
        int[] kept = all(x);
        CHECK.due("image(2)", 2, x.image(2));
        CHECK.due("HUNGER in the image", 5, x.dealer(1, 3));
        for (int i = 0; i < 30; i++) {
            x.hour();
        }
        x.free(0);
        CHECK.due("the day now", 3, x.about(4));
        CHECK.due("back(2)", 2, x.back(2));
        int[] again = all(x);
        for (int i = 0; i < kept.length; i++) {
            CHECK.due("kept number " + i, kept[i], again[i]);
        }
        CHECK.due("no ACTS to undo", 0, x.about(7));
        CHECK.due("undo()", false, x.undo());
        CHECK.due("the SEED goes on", (kept[24] * 137 + 71) % 1000, seedBehindAnHour(x));
        x.undo();
        CHECK.due("one to redo", 1, x.about(8));
        CHECK.due("back(2) once more", 2, x.back(2));
        CHECK.due("no ACTS to redo", false, x.redo());
    }

    private static int seedBehindAnHour(CricketHay x) {
        x.hour();
        return x.about(5);
    }

    private static void boxes() {
        CricketHay x = Texts.of(TWO);
        x.image(0);
        x.hour();
        x.image(1);
        x.hour();
        x.image(2);
        x.hour();
        for (int box = 0; box < 3; box++) {
            CHECK.due("back(" + box + ")", 0, x.back(box));
            CHECK.due("HOUR of box " + box, box, x.about(3));
        }
        x.hour();
        x.image(0);
        x.back(1);
        x.back(0);
        CHECK.due("HOUR of a box filled anew", 3, x.about(3));
        x.undo();
        x.breathe(0, 2);
        CHECK.due("an image is not changed by what comes later", 0, x.back(0));
        CHECK.due("its BREATH", 0, x.dealer(0, 7));
    }

    private static void stays() {
        CricketHay x = Texts.of(TWO);
        x.image(0);
        x.hour();
        x.later(4);
        x.heard(20, 25, true);
        x.plan(0, 1, 2, 3);
        x.feed(1, 2, 3, 4, 5);
        int[] acts = {x.about(7), x.about(8)};
        x.image(1);
        CHECK.due("ACTS stay by an image", acts[0], x.about(7));
        x.back(0);
        CHECK.due("HEARD stays", 1, x.about(9));
        CHECK.due("the TIME stays", 4, x.about(10));
        CHECK.due("the TAPE stays", 20, x.about(11));
        CHECK.due("what lies there stays", 3, x.about(13));
        CHECK.due("the other BOX stays", 0, x.back(1));
        CHECK.due("its HOUR", 1, x.about(3));
    }

    private static void about() {
        CricketHay x = Texts.of(TWO + "kind j;cart 7;heat 20+hour;chirps heat-song;");
        for (int i = 0; i < 26; i++) {
            x.hour();
        }
        x.undo();
        x.heard(1, 2, true);
        x.heard(1, 2, true);
        x.later(9);
        x.feed(0, 0, 0, 0, 0);
        x.end(17);
        x.clear(0);
        int seed = 8;
        for (int i = 0; i < 25; i++) {
            seed = (seed * 137 + 71) % 1000;
        }
        int[] due = {2, 2, 7, 1, 1, seed, 40, 25, 1, 2, 9, 17, 4, 2};
        for (int i = 0; i < due.length; i++) {
            CHECK.due("about(" + i + ")", due[i], x.about(i));
        }
        CHECK.due("about(14)", -1, x.about(14));
        CHECK.due("about(-1)", -1, x.about(-1));
        CHECK.due("about(most)", -1, x.about(Integer.MAX_VALUE));
        CHECK.due("NONE", -1, CricketHay.NONE);
    }
}
