/** Promises 34 to 39: what was heard of a stranger's cricket, as known at a time. */
final class StrangerTest {
    private static final Check CHECK = new Check("StrangerTest");

    public static void main(String[] args) {
        heard();
        untell();
        untellOfFormer();
        later();
        fits();
        fitsByHour();
        twoTimes();
        sure();
        ask();
        askRefused();
        CHECK.end();
    }

    private static void heard() {
        CricketHay x = new CricketHay();
        int[][] wrong = {{-1, 5}, {41, 5}, {5, -1}, {5, 100}, {Integer.MAX_VALUE, 5},
            {5, Integer.MIN_VALUE}};
        for (int[] w : wrong) {
            CHECK.due("heard(" + w[0] + ", " + w[1] + ")", -1, x.heard(w[0], w[1], true));
        }
        CHECK.due("HEARD none", 0, x.about(9));
        CHECK.due("heard(0, 0)", 0, x.heard(0, 0, true));
        CHECK.due("heard(40, 99)", 1, x.heard(40, 99, false));
        for (int i = 2; i < 30; i++) {
            CHECK.due("heard " + i, i, x.heard(20, 25, true));
        }
        CHECK.due("heard 30", -1, x.heard(20, 25, true));
        CHECK.due("HEARD", 30, x.about(9));
        x.untell(4);
        CHECK.due("heard 30, one UNTOLD", -1, x.heard(20, 25, true));
        CHECK.due("HEARD, one UNTOLD", 30, x.about(9));
    }

    private static void untell() {
        CricketHay x = new CricketHay();
        CHECK.due("untell(0) of none", false, x.untell(0));
        x.heard(20, 25, true);
        CHECK.due("untell(1)", false, x.untell(1));
        CHECK.due("untell(-1)", false, x.untell(-1));
        CHECK.due("untell(0)", true, x.untell(0));
        CHECK.due("untell(0) again", false, x.untell(0));
        CHECK.due("fits at once", 100, x.fits(0));
        x.heard(20, 25, true);
        x.later(5);
        CHECK.due("untell(1) later", true, x.untell(1));
        x.later(5);
        CHECK.due("untell(1) later again", false, x.untell(1));
        CHECK.due("untell(most)", false, x.untell(Integer.MAX_VALUE));
        CHECK.due("untell(30)", false, x.untell(30));
        CHECK.due("fits(4)", 50, x.fits(4));
        CHECK.due("fits(5)", 100, x.fits(5));
    }

    private static void untellOfFormer() {
        CricketHay x = new CricketHay();
        for (int i = 0; i < 30; i++) {
            x.heard(20, 25, true);
        }
        CHECK.due("untell(30) of thirty", false, x.untell(30));
        x.market();
        CHECK.due("untell(0) of a former MARKET", false, x.untell(0));
        x.heard(20, 25, true);
        CHECK.due("untell(1) of a former MARKET", false, x.untell(1));
        CHECK.due("fits", 50, x.fits(0));
    }

    private static void later() {
        CricketHay x = new CricketHay();
        CHECK.due("later(0)", 0, x.later(0));
        CHECK.due("later(-1)", -1, x.later(-1));
        CHECK.due("later(1001)", -1, x.later(1001));
        CHECK.due("later(most)", -1, x.later(Integer.MAX_VALUE));
        CHECK.due("the TIME", 0, x.about(10));
        for (int i = 1; i <= 99; i++) {
            CHECK.due("later " + i, 1000 * i, x.later(1000));
        }
        CHECK.due("later(999)", 99999, x.later(999));
        CHECK.due("later(2)", -1, x.later(2));
        CHECK.due("the TIME", 99999, x.about(10));
        CHECK.due("later(1)", 100000, x.later(1));
        CHECK.due("later(1) at the end", -1, x.later(1));
        CHECK.due("later(0) at the end", 100000, x.later(0));
    }

    private static void fits() {
        // Not told: heat and song.
        CricketHay x = new CricketHay();
        x.heard(20, 25, true);
        CHECK.due("25 at least at 20", 50, x.fits(0));
        x.heard(10, 18, false);
        CHECK.due("not 18 at 10", 30, x.fits(0));
        x.heard(40, 47, true);
        CHECK.due("47 at least at 40", 10, x.fits(0));
        x.heard(0, 8, true);
        CHECK.due("8 at least at 0", 0, x.fits(0));
        x = Texts.of("kind k;dealer a of k song 1;dealer b of k song 1;heat 3;"
            + "chirps song*10+age-heat+mates*50;");
        CHECK.due("mates sing more", 53 - 46, x.dealer(0, 9) - 50);
        x.heard(0, 95, true);
        CHECK.due("95 at least, without mates", 5, x.fits(0));
        x.heard(4, 94, true);
        CHECK.due("94 at least at 4", 2, x.fits(0));
        x.heard(4, 95, true);
        CHECK.due("95 at least at 4", 1, x.fits(0));
        x.heard(5, 94, false);
        CHECK.due("not 94 at 5", 0, x.fits(0));
        x = Texts.of("chirps song*20;");
        x.heard(0, 99, true);
        CHECK.due("99 at the most", 50, x.fits(0));
        x = Texts.of("chirps song-5;");
        x.heard(0, 0, false);
        CHECK.due("less than 0: never", 0, x.fits(0));
    }

    private static void fitsByHour() {
        CricketHay x = Texts.of("chirps song+hour*10+day*3;");
        x.heard(7, 15, true);
        CHECK.due("at HOUR 0", 0, x.fits(0));
        x.hour();
        CHECK.due("at HOUR 1", 50, x.fits(0));
        x.hour();
        CHECK.due("at HOUR 2", 100, x.fits(0));
        x.undo();
        CHECK.due("at HOUR 1 again", 50, x.fits(0));
        for (int i = 0; i < 23; i++) {
            x.hour();
        }
        CHECK.due("on day 1", 0, x.fits(0));
        for (int i = 0; i < 72; i++) {
            x.hour();
        }
        CHECK.due("on day 4", 70, x.fits(0));
        x = Texts.of("chirps song*2;");
        x.heard(7, 15, true);
        CHECK.due("of a former MARKET", 20, x.fits(9));
        CHECK.due("its songs", -2, x.sure(9));
        Texts.market(x, "chirps age*3;");
        CHECK.due("of a new MARKET", 100, x.fits(9));
        x.heard(7, 15, true);
        CHECK.due("by its chirps", 50, x.fits(9));
    }

    private static void twoTimes() {
        CricketHay x = new CricketHay();
        x.later(10);
        x.heard(20, 25, true);
        x.later(10);
        x.heard(20, 27, true);
        x.later(10);
        x.untell(0);
        x.heard(20, 28, false);
        x.untell(1);
        int[] times = {-1, 0, 9, 10, 19, 20, 29, 30, 31, Integer.MAX_VALUE, Integer.MIN_VALUE};
        int[] due = {100, 100, 100, 50, 50, 30, 30, 80, 80, 80, 100};
        for (int i = 0; i < times.length; i++) {
            CHECK.due("fits(" + times[i] + ")", due[i], x.fits(times[i]));
        }
    }

    private static void sure() {
        CricketHay x = new CricketHay();
        CHECK.due("sure of all", -2, x.sure(0));
        x.heard(20, 28, true);
        CHECK.due("sure of two", -2, x.sure(0));
        x.later(1);
        x.heard(20, 29, true);
        CHECK.due("sure of one", 9, x.sure(1));
        CHECK.due("sure of two at 0", -2, x.sure(0));
        x.later(1);
        x.heard(20, 29, false);
        CHECK.due("sure of none", -1, x.sure(2));
        x = new CricketHay();
        x.heard(20, 21, false);
        CHECK.due("sure of song 0", 0, x.sure(0));
        x = Texts.of("chirps (song=0 and age=0)*5;");
        x.heard(0, 5, true);
        CHECK.due("sure of the first one of all", 0, x.sure(0));
        x = Texts.of("chirps song+age;");
        x.heard(0, 18, true);
        CHECK.due("sure of one with an age", 9, x.sure(0));
        CHECK.due("its fits", 1, x.fits(0));
    }

    private static void ask() {
        CricketHay x = new CricketHay();
        CHECK.due("ask(25, 0)", 20, x.ask(25, 0, 0));
        CHECK.due("ask(25, 1)", 50, x.ask(25, 1, 0));
        CHECK.due("ask(0, 0)", 0, x.ask(0, 0, 0));
        CHECK.due("ask(0, 1)", 100, x.ask(0, 1, 0));
        CHECK.due("ask(99, 0)", 0, x.ask(99, 0, 0));
        CHECK.due("ask(99, 1)", 100, x.ask(99, 1, 0));
        CHECK.due("ask(45, 0), the greatest heat", 40, x.ask(45, 0, 0));
        CHECK.due("ask(45, 1)", 50, x.ask(45, 1, 0));
        CHECK.due("ask(3, 0), below half at all heats", 0, x.ask(3, 0, 0));
        CHECK.due("ask(3, 1)", 70, x.ask(3, 1, 0));
        x.heard(20, 27, true);
        // Songs 7, 8, 9: 8 at least or 9 at least leave two of them, 20 with ages.
        CHECK.due("ask(28, 0) of three", 19, x.ask(28, 0, 0));
        CHECK.due("ask(28, 1) of three", 20, x.ask(28, 1, 0));
        CHECK.due("ask(28, 0) ahead of it", 23, x.ask(28, 0, -1));
        x = Texts.of("chirps (song=0 and age=0)*heat;");
        CHECK.due("ask(5, 0) of one among a hundred", 5, x.ask(5, 0, 0));
        CHECK.due("ask(5, 1) of one among a hundred", 99, x.ask(5, 1, 0));
        CHECK.due("ask(1, 0) of one among a hundred", 1, x.ask(1, 0, 0));
        x = Texts.of("chirps (song=9 and age=9)*heat;");
        CHECK.due("ask(40, 0) of the last one", 40, x.ask(40, 0, 0));
        CHECK.due("ask(40, 1) of the last one", 99, x.ask(40, 1, 0));
        x = Texts.of("chirps song+(heat=7 or heat=9)*age;");
        CHECK.due("ask(9, 0) of like ones the least", 7, x.ask(9, 0, 0));
        CHECK.due("ask(9, 1)", 55, x.ask(9, 1, 0));
    }

    private static void askRefused() {
        CricketHay x = new CricketHay();
        int[][] wrong = {{-1, 0}, {100, 0}, {5, 2}, {5, -1}, {Integer.MAX_VALUE, 0},
            {5, Integer.MIN_VALUE}};
        for (int[] w : wrong) {
            CHECK.due("ask(" + w[0] + ", " + w[1] + ", 0)", -1, x.ask(w[0], w[1], 0));
        }
        x.later(3);
        x.heard(20, 30, true);
        CHECK.due("ask of none", -1, x.ask(25, 0, 3));
        CHECK.due("ask of none, how many", -1, x.ask(25, 1, 3));
        CHECK.due("ask ahead of it", 20, x.ask(25, 0, 2));
    }
}
