import java.util.function.Supplier;

/** Edges of what was heard of a stranger's cricket: the terms' fourth part, promises 34 to 39. */
final class StrangerEdges {
    private static final int[] ENDS = {Integer.MIN_VALUE, -1, Integer.MAX_VALUE};

    private final Edges e;

    private StrangerEdges(Edges e) {
        this.e = e;
    }

    static void all(Edges e) {
        StrangerEdges edges = new StrangerEdges(e);
        edges.heardTerm();
        edges.knownTerm();
        edges.fitsTerm();
        edges.fitsNow();
        edges.sureTerm();
        edges.askTerm();
        edges.constant();
        edges.heard();
        edges.untell();
        edges.later();
        edges.fits();
        edges.sure();
        edges.ask();
    }

    /** A cricket sings 10 times its song and once its age, so that each sings what no other does. */
    private static CricketHay parted() {
        return Texts.of("chirps song*10+age;");
    }

    private static CricketHay full() {
        CricketHay x = new CricketHay();
        for (int i = 0; i < 30; i++) {
            x.heard(20, 25, true);
        }
        return x;
    }

    // ---- Terms ----

    private void heardTerm() {
        e.says("Terms", "HEARD, 30 at most, is TOLD at a TIME (0 at first, goes on), UNTOLD at a later"
            + " one or the same: a stranger's cricket, at a heat (0 .. 40), had so many CHIRPS at "
            + "least, or had not.");
        CricketHay x = new CricketHay();
        e.due("TIME at first", 0, x.about(10));
        for (int i = 0; i < 30; i++) {
            e.due("heard " + i, i, x.heard(i, i, i % 2 == 0));
            e.due("HEARD", i + 1, x.about(9));
        }
        e.refused("heard, a thirty-first", -1, StrangerEdges::full, y -> y.heard(20, 25, true));
        x = new CricketHay();
        x.heard(20, 25, true);
        e.due("UNTOLD at the same TIME", true, x.untell(0));
        x.heard(20, 25, true);
        x.later(1);
        e.due("UNTOLD at a later one", true, x.untell(1));
        e.due("TIME that went on", 1, x.about(10));
        x = parted();
        x.heard(0, 50, true);
        e.due("50 at least", 50, x.fits(0));
        x.heard(40, 51, false);
        e.due("not 51", 1, x.fits(0));
        x.heard(0, 50, false);
        e.due("50 and not 50", 0, x.fits(0));
    }

    private void knownTerm() {
        e.says("Terms", "As known at k those count that were TOLD at k or before, not UNTOLD at k or "
            + "before.");
        CricketHay x = parted();
        x.later(5);
        x.heard(0, 90, true);
        x.later(3);
        x.heard(0, 95, true);
        x.untell(0);
        x.later(2);
        x.heard(0, 99, true);
        x.untell(2);
        x.untell(1);
        // TOLD and UNTOLD: 5 and 8, 8 and 10, 10 and 10.
        int[] times = {Integer.MIN_VALUE, -1, 0, 4, 5, 6, 7, 8, 9, 10, 11, Integer.MAX_VALUE};
        int[] due = {100, 100, 100, 100, 10, 10, 10, 5, 5, 100, 100, 100};
        for (int i = 0; i < times.length; i++) {
            e.due("fits(" + times[i] + ")", due[i], x.fits(times[i]));
        }
        x.heard(0, 98, true);
        e.due("fits(9), told later", 5, x.fits(9));
        e.due("fits(10), told now", 2, x.fits(10));
        e.due("fits(most), told now", 2, x.fits(Integer.MAX_VALUE));
    }

    private void fitsTerm() {
        e.says("Terms", "FITS: songs 0 .. 9 with ages 0 .. 9 by which (without mates, at the HOUR and "
            + "day that are now) all that count are so.");
        e.due("all", 100, parted().fits(0));
        for (int chirps = 0; chirps <= 99; chirps++) {
            CricketHay x = parted();
            x.heard(chirps % 41, chirps, true);
            e.due(chirps + " at least", 100 - chirps, x.fits(0));
            if (chirps < 99) {
                x.heard(0, chirps + 1, false);
            }
            e.due(chirps + " exactly", 1, x.fits(0));
            e.due("its song", chirps / 10, x.sure(0));
        }
        CricketHay x = Texts.of("chirps age;");
        x.heard(0, 9, true);
        e.due("the greatest age", 10, x.fits(0));
        x.heard(0, 10, true);
        e.due("a greater age", 0, x.fits(0));
        x = Texts.of("kind k;dealer a of k song 1;dealer b of k song 1;chirps mates;");
        e.due("a mate of those that are there", 1, x.dealer(0, 9));
        x.heard(0, 1, true);
        e.due("without mates", 0, x.fits(0));
    }

    private void fitsNow() {
        CricketHay x = Texts.of("kind k;dealer a of k song 1;chirps heat;heat 3;snap 100 of 9;");
        x.heard(40, 40, true);
        x.heard(0, 1, false);
        e.due("at a heat by itself", 100, x.fits(0));
        x.breathe(0, 5);
        x.hour();
        e.due("whatever the COLD and BREATHS", 100, x.fits(0));
        x = Texts.of("chirps hour*4+day+song;");
        x.heard(7, 20, true);
        int[] due = {0, 0, 0, 20, 60, 100};
        for (int hour = 0; hour < due.length; hour++) {
            e.due("in HOUR " + hour, due[hour], x.fits(0));
            x.hour();
        }
        for (int i = due.length; i < 24 + 4; i++) {
            x.hour();
        }
        e.due("in HOUR 4 of day 1", 70, x.fits(0));
        x.image(0);
        x.undo();
        e.due("in HOUR 3 of day 1, undone", 30, x.fits(0));
        x.redo();
        e.due("in HOUR 4, redone", 70, x.fits(0));
        x.hour();
        x.back(0);
        e.due("in HOUR 4, gone on from", 70, x.fits(0));
        for (int i = 0; i < 24; i++) {
            x.hour();
        }
        e.due("in HOUR 4 of day 2", 80, x.fits(0));
        e.due("of a new MARKET", 0, Texts.market(x, "chirps age+hour+day;"));
        e.due("of a new MARKET, nothing HEARD", 100, x.fits(0));
        for (int i = 0; i < 28; i++) {
            x.hour();
        }
        x.heard(0, 14, true);
        e.due("in HOUR 4 of day 1 of it", 10, x.fits(0));
        Texts.market(x, "chirps song+4;");
        x.heard(0, 11, true);
        e.due("in HOUR 0 of day 0", 30, x.fits(0));
        Texts.market(x, "chirps age*2+4;");
        x.heard(0, 12, true);
        e.due("in HOUR 0 of day 0 of another MARKET", 60, x.fits(0));
    }

    private void sureTerm() {
        e.says("Terms", "SURE: the song, if it is the same in all.");
        CricketHay x = parted();
        x.heard(0, 89, true);
        e.due("song 8 in one, 9 in ten", -2, x.sure(0));
        x.heard(0, 90, true);
        e.due("song 9 in ten", 9, x.sure(0));
        x.heard(0, 99, true);
        e.due("song 9 in one", 9, x.sure(0));
        x = parted();
        x.heard(0, 11, false);
        e.due("song 0 in ten, 1 in one", -2, x.sure(0));
        x.heard(0, 10, false);
        e.due("song 0 in ten", 0, x.sure(0));
        x.heard(0, 1, false);
        e.due("song 0 in one", 0, x.sure(0));
        x = Texts.of("chirps (song=0 or song=9)*(age=5);");
        x.heard(0, 1, true);
        e.due("song 0 and song 9", -2, x.sure(0));
    }

    private void asks(CricketHay x, int chirps, int heat, int left) {
        e.due("ask(" + chirps + ", 0, 0)", heat, x.ask(chirps, 0, 0));
        e.due("ask(" + chirps + ", 1, 0)", left, x.ask(chirps, 1, 0));
    }

    private void askTerm() {
        e.says("Terms", "ASK for so many CHIRPS: the heat at which to hear whether it has so many at "
            + "least would leave the fewest of these at the most; of like ones the least.");
        // Heat and song: by 5 songs of 10 from heat chirps - 5 on.
        asks(new CricketHay(), 5, 0, 50);
        asks(new CricketHay(), 4, 0, 60);
        asks(new CricketHay(), 0, 0, 100);
        asks(new CricketHay(), 6, 1, 50);
        asks(new CricketHay(), 45, 40, 50);
        asks(new CricketHay(), 46, 40, 60);
        asks(new CricketHay(), 49, 40, 90);
        asks(new CricketHay(), 50, 0, 100);
        asks(new CricketHay(), 99, 0, 100);
        asks(Texts.of("chirps (song=9 and age=9)*heat;"), 40, 40, 99);
        asks(Texts.of("chirps (song=0 and age=0)*heat;"), 1, 1, 99);
        // Of the hundred 45 have song and age of 8 together at the most, 55 of 9.
        asks(Texts.of("chirps (song+age>heat)*50;"), 50, 8, 55);
        asks(Texts.of("chirps song*10*(heat=3 or heat=40);"), 50, 3, 50);
        asks(Texts.of("chirps song*10*(heat=3)+(song*10+age)*(heat=40);"), 48, 3, 50);
        asks(Texts.of("chirps song*9*(heat=3)+(song*10+age)*(heat=40);"), 48, 40, 52);
        CricketHay x = new CricketHay();
        x.heard(0, 8, true);
        asks(x, 9, 0, 10);
        asks(x, 19, 10, 10);
        x.heard(0, 9, true);
        asks(x, 9, 0, 10);
    }

    private void constant() {
        e.says("Terms", "The constants: `NONE = -1`: There is none.");
        e.due("NONE", -1, CricketHay.NONE);
    }

    // ---- Promises 34 to 39 ----

    private void heard() {
        e.says("Promise 34: heard", "A HEARD: its number; NONE, doing nothing, if one can't be (CHIRPS"
            + " 0 .. 99), or there are 30.");
        CricketHay x = new CricketHay();
        int[][] good = {{0, 0}, {40, 99}, {0, 99}, {40, 0}};
        for (int i = 0; i < good.length; i++) {
            e.due("heard(" + good[i][0] + ", " + good[i][1] + ")", i,
                x.heard(good[i][0], good[i][1], i == 0));
        }
        e.due("fits of them", 0, x.fits(0));
        for (int heat : new int[] {Integer.MIN_VALUE, -1, 41, Integer.MAX_VALUE}) {
            e.refused("heard(" + heat + ", 25)", -1, CricketHay::new, y -> y.heard(heat, 25, true));
        }
        for (int chirps : new int[] {Integer.MIN_VALUE, -1, 100, Integer.MAX_VALUE}) {
            e.refused("heard(20, " + chirps + ")", -1, CricketHay::new,
                y -> y.heard(20, chirps, false));
        }
        e.refused("heard, of 30", -1, StrangerEdges::full, y -> y.heard(20, 25, false));
        Supplier<CricketHay> untold = () -> {
            CricketHay y = full();
            y.untell(29);
            y.untell(0);
            return y;
        };
        e.refused("heard, of 30 with UNTOLD ones", -1, untold, y -> y.heard(20, 25, false));
        x = full();
        x.market();
        e.due("heard, the first of a new MARKET", 0, x.heard(20, 25, true));
    }

    private void untell() {
        e.says("Promise 35: untell", "It is UNTOLD: true; false if it is so already, or there is none "
            + "such.");
        CricketHay x = full();
        for (int i : new int[] {0, 29, 15}) {
            e.due("untell(" + i + ")", true, x.untell(i));
        }
        Supplier<CricketHay> one = () -> {
            CricketHay y = new CricketHay();
            y.heard(20, 25, true);
            y.heard(20, 27, true);
            y.later(2);
            y.untell(1);
            y.later(1);
            return y;
        };
        e.refused("untell(1), so already", 0, one, y -> y.untell(1) ? 1 : 0);
        for (int i : new int[] {Integer.MIN_VALUE, -1, 2, 29, 30, Integer.MAX_VALUE}) {
            e.refused("untell(" + i + ")", 0, one, y -> y.untell(i) ? 1 : 0);
        }
        e.refused("untell(0) of none", 0, CricketHay::new, y -> y.untell(0) ? 1 : 0);
        e.refused("untell(30) of thirty", 0, StrangerEdges::full, y -> y.untell(30) ? 1 : 0);
        x = one.get();
        e.due("fits(1), UNTOLD at 2", 30, x.fits(1));
        e.due("fits(2), UNTOLD at 2", 50, x.fits(2));
        e.due("untell(0)", true, x.untell(0));
        e.due("untell(0) once more", false, x.untell(0));
        e.due("fits(3), both UNTOLD", 100, x.fits(3));
        e.due("fits(2), one UNTOLD", 50, x.fits(2));
    }

    private static CricketHay at(int time) {
        CricketHay x = new CricketHay();
        for (int i = 0; i < time / 1000; i++) {
            x.later(1000);
        }
        x.later(time % 1000);
        return x;
    }

    private void later() {
        e.says("Promise 36: later", "So much later (0 .. 1000): the TIME; NONE, doing nothing, for "
            + "another number, or if it would be above 100,000.");
        CricketHay x = new CricketHay();
        e.due("later(0)", 0, x.later(0));
        e.due("later(1)", 1, x.later(1));
        e.due("later(1000)", 1001, x.later(1000));
        e.due("later(999)", 2000, x.later(999));
        for (int by : new int[] {Integer.MIN_VALUE, -1000, -1, 1001, 100000, Integer.MAX_VALUE}) {
            e.refused("later(" + by + ")", -1, () -> at(5), y -> y.later(by));
        }
        e.due("later(1000) to the end", 100000, at(99000).later(1000));
        e.due("later(1) to the end", 100000, at(99999).later(1));
        e.due("later(0) at the end", 100000, at(100000).later(0));
        e.refused("later(1) at the end", -1, () -> at(100000), y -> y.later(1));
        e.refused("later(2) at 99,999", -1, () -> at(99999), y -> y.later(2));
        e.refused("later(1000) at 99,001", -1, () -> at(99001), y -> y.later(1000));
        e.due("later(999) at 99,001", 100000, at(99001).later(999));
        x = at(100000);
        x.market();
        e.due("TIME of a new MARKET", 100000, x.later(0));
        x.heard(20, 25, true);
        e.due("fits(99999)", 100, x.fits(99999));
        e.due("fits(100000)", 50, x.fits(100000));
    }

    private void fits() {
        e.says("Promise 37: fits", "FITS: how many.");
        CricketHay x = parted();
        for (int k : new int[] {Integer.MIN_VALUE, -1, 0, 1, Integer.MAX_VALUE}) {
            e.due("fits(" + k + ") of none HEARD", 100, x.fits(k));
        }
        x.heard(0, 99, true);
        e.due("fits(0)", 1, x.fits(0));
        e.due("fits(-1)", 100, x.fits(-1));
        x.heard(0, 99, false);
        e.due("fits(0) of none", 0, x.fits(0));
    }

    private static CricketHay none() {
        CricketHay x = parted();
        x.later(3);
        x.heard(0, 90, true);
        x.heard(0, 90, false);
        return x;
    }

    private void sure() {
        e.says("Promise 38: sure", "SURE: the song; -2 if it is not the same in all, NONE if none "
            + "FITS.");
        for (int k : ENDS) {
            e.due("sure(" + k + ") of none HEARD", -2, parted().sure(k));
        }
        CricketHay x = none();
        e.due("sure(3), none FITS", -1, x.sure(3));
        e.due("sure(2), ahead of it", -2, x.sure(2));
        x.untell(1);
        e.due("sure(3), one UNTOLD", 9, x.sure(3));
        x.heard(0, 1, false);
        e.due("sure(3), none FITS again", -1, x.sure(3));
        x.untell(0);
        e.due("sure(3), the first song", 0, x.sure(3));
    }

    private void ask() {
        e.says("Promise 39: ask", "ASK (CHIRPS 0 .. 99) what 0: the heat, 1: how many are left at the "
            + "most; NONE if none FITS, or one can't be.");
        asks(parted(), 0, 0, 100);
        asks(parted(), 99, 0, 99);
        asks(parted(), 50, 0, 50);
        asks(parted(), 1, 0, 99);
        for (int chirps : new int[] {Integer.MIN_VALUE, -1, 100, Integer.MAX_VALUE}) {
            e.refused("ask(" + chirps + ", 0, 0)", -1, StrangerEdges::none,
                x -> x.ask(chirps, 0, 0));
            e.refused("ask(" + chirps + ", 1, 0)", -1, StrangerEdges::none,
                x -> x.ask(chirps, 1, 0));
        }
        for (int what : new int[] {Integer.MIN_VALUE, -1, 2, Integer.MAX_VALUE}) {
            e.refused("ask(25, " + what + ", 0)", -1, StrangerEdges::none,
                x -> x.ask(25, what, 0));
        }
        for (int what = 0; what < 2; what++) {
            int w = what;
            e.refused("ask(25, " + w + ", 3), none FITS", -1, StrangerEdges::none,
                x -> x.ask(25, w, 3));
            e.refused("ask(25, " + w + ", most), none FITS", -1, StrangerEdges::none,
                x -> x.ask(25, w, Integer.MAX_VALUE));
        }
        e.due("ask(25, 1, 2), ahead of it", 75, none().ask(25, 1, 2));
        e.due("ask(25, 1, least)", 75, none().ask(25, 1, Integer.MIN_VALUE));
        CricketHay x = parted();
        x.heard(0, 99, true);
        asks(x, 99, 0, 1);
        asks(x, 0, 0, 1);
    }
}
