import java.util.Map;
import java.util.function.Supplier;

/** Edges of images, of what is told about, and of an object's last call: promises 40 to 42. */
final class ImageEdges {
    private static final int[] NO_BOXES = {Integer.MIN_VALUE, -1, 3, 32, Integer.MAX_VALUE};

    private final Edges e;

    private ImageEdges(Edges e) {
        this.e = e;
    }

    static void all(Edges e) {
        ImageEdges edges = new ImageEdges(e);
        edges.image();
        edges.back();
        edges.backRefused();
        edges.about();
        edges.lastCall();
    }

    /** On day 1, with all that an image keeps another than at first. */
    private static CricketHay used() {
        CricketHay x = Texts.of("kind k;kind j;"
            + "dealer a of k song 1 age 2 gold 500 loads 5 needs 2;"
            + "dealer b of k song 3 age 98 gold 50 loads 9 needs 7;"
            + "dealer c of j song 9;snap 100 of 4;draw 8;cart 7;heat 30+hour%2;chirps heat+age/9;");
        x.buy(0, 1, 6);
        for (int i = 0; i < 29; i++) {
            x.hour();
        }
        x.breathe(0, -3);
        x.free(1);
        return x;
    }

    private void kept(String when, Map<String, Integer> before, CricketHay x) {
        Map<String, Integer> after = State.of(x);
        for (String asked : before.keySet()) {
            if (!asked.equals("about(7)") && !asked.equals("about(8)")) {
                e.due(when + ": " + asked, before.get(asked), after.get(asked));
            }
        }
    }

    private void image() {
        e.says("Promise 40: image", "What DEALERS have, ages, BREATHS, who is FREE, COLD, HOUR, day, "
            + "SEED are kept in a BOX 0 .. 2: the day; NONE if there is none such.");
        for (int box = 0; box < 3; box++) {
            CricketHay x = used();
            e.due("HUNGER", 4, x.dealer(1, 3));
            e.due("FREE", 1, x.dealer(1, 8));
            e.due("BREATH", -3, x.dealer(0, 7));
            Map<String, Integer> before = State.of(x);
            e.due("image(" + box + ")", 1, x.image(box));
            kept("an image changes nothing", before, x);
            e.due("ACTS stay", 32, x.about(7));
            for (int i = 0; i < 20; i++) {
                x.hour();
            }
            x.breathe(0, 5);
            x.breathe(2, 1);
            x.free(0);
            x.buy(2, 0, 1);
            x.undo();
            e.due("back(" + box + ")", 1, x.back(box));
            kept("gone on from BOX " + box, before, x);
            x.hour();
            e.due("the SEED goes on", (before.get("about(5)") * 137 + 71) % 1000, x.about(5));
        }
        for (int box : NO_BOXES) {
            e.refused("image(" + box + ")", -1, ImageEdges::used, x -> x.image(box));
        }
        CricketHay x = new CricketHay();
        for (int box = 0; box < 3; box++) {
            e.due("image(" + box + ") of a new object", 0, x.image(box));
            x.hour();
        }
        for (int box = 2; box >= 0; box--) {
            e.due("back(" + box + ")", 0, x.back(box));
            e.due("the HOUR of BOX " + box, box, x.about(3));
        }
        x.hour();
        x.image(1);
        x.hour();
        x.back(1);
        e.due("the HOUR of a BOX filled anew", 1, x.about(3));
        x.back(2);
        e.due("the HOUR of another BOX", 2, x.about(3));
    }

    private void back() {
        e.says("Promise 41: back", "All is as it was kept (no ACTS are kept then): the day;");
        CricketHay x = used();
        x.image(0);
        x.undo();
        e.due("ACTS to undo", 31, x.about(7));
        e.due("ACTS to redo", 1, x.about(8));
        e.due("back(0)", 1, x.back(0));
        e.due("ACTS to undo then", 0, x.about(7));
        e.due("ACTS to redo then", 0, x.about(8));
        e.due("undo()", false, x.undo());
        e.due("redo()", false, x.redo());
        e.due("FREE as it was kept", 1, x.dealer(1, 8));
        x.breathe(0, 1);
        e.due("undo() of an ACT behind it", true, x.undo());
        e.due("BREATH as it was kept", -3, x.dealer(0, 7));
        e.due("back(0) once more", 1, x.back(0));
        // What an image does not keep stays as it is.
        x.heard(20, 25, true);
        x.later(9);
        x.plan(0, 2, 3, 3);
        x.feed(1, 2, 3, 4, 5);
        x.image(2);
        x.back(0);
        int[] whats = {9, 10, 11, 13};
        int[] due = {1, 9, 20, 3};
        for (int i = 0; i < whats.length; i++) {
            e.due("about(" + whats[i] + ")", due[i], x.about(whats[i]));
        }
        e.due("the other BOX", 1, x.back(2));
    }

    private void backRefused() {
        e.says("Promise 41: back", "NONE, doing nothing, if nothing was.");
        for (int box = 0; box < 3; box++) {
            int b = box;
            e.refused("back(" + b + "), nothing was kept", -1, ImageEdges::used, x -> x.back(b));
            Supplier<CricketHay> others = () -> {
                CricketHay x = used();
                x.image((b + 1) % 3);
                x.image((b + 2) % 3);
                x.undo();
                return x;
            };
            e.refused("back(" + b + "), only others were kept", -1, others, x -> x.back(b));
            Supplier<CricketHay> former = () -> {
                CricketHay x = used();
                x.image(b);
                Texts.market(x, "kind k;dealer a of k song 1;");
                x.hour();
                return x;
            };
            e.refused("back(" + b + "), of a former MARKET", -1, former, x -> x.back(b));
        }
        for (int box : NO_BOXES) {
            e.refused("back(" + box + ")", -1, ImageEdges::used, x -> x.back(box));
        }
    }

    private void about() {
        e.says("Promise 42: about", "What 0: DEALERS, 1: KINDS, 2: the cart, 3: the HOUR, 4: the day, "
            + "5: the SEED, 6: the COLD, 7: ACTS that can be undone, 8: redone, 9: HEARD, 10: the "
            + "TIME, 11: bytes on the TAPE, 12: units, 13: how many lie there. NONE for another "
            + "what.");
        CricketHay x = used();
        x.undo();
        x.undo();
        x.heard(1, 2, true);
        x.heard(1, 2, true);
        x.untell(0);
        x.later(11);
        x.feed(0, 0, 0, 0, 0);
        x.end(17);
        x.clear(1);
        int seed = 8;
        for (int i = 0; i < 29; i++) {
            seed = (seed * 137 + 71) % 1000;
        }
        int[] due = {3, 2, 7, 5, 1, seed, 40, 30, 2, 2, 11, 17, 6, 3};
        for (int what = 0; what < due.length; what++) {
            e.due("about(" + what + ")", due[what], x.about(what));
        }
        for (int what : new int[] {Integer.MIN_VALUE, -1, 14, 15, Integer.MAX_VALUE}) {
            e.due("about(" + what + ")", -1, x.about(what));
        }
    }

    /** An object is used for at most 512 calls: the last one is as good as the first. */
    private void lastCall() {
        CricketHay x = new CricketHay();
        for (int i = 1; i <= 80; i++) {
            x.feed(0x20202020, 0x20202020, 0x20202020, 0x20202020, 0x63617274);
        }
        e.due("call 81: end(1600)", 1600, x.end(1600));
        e.due("call 82: market()", -1, x.market());
        e.due("call 83: fault(1)", 36, x.fault(1));
        for (int i = 84; i < 512; i++) {
            x.hour();
        }
        e.due("call 512: about(4)", 428 / 24, x.about(4));
    }
}
