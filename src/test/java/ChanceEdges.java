/** Edges of chances, laws and songs: the terms' third part from ODDS on, promises 27, 29 to 32. */
final class ChanceEdges {
    private static final int[] FAR = {Integer.MIN_VALUE, -1, 2, 6, Integer.MAX_VALUE};

    private final Edges e;

    private ChanceEdges(Edges e) {
        this.e = e;
    }

    static void all(Edges e) {
        ChanceEdges edges = new ChanceEdges(e);
        edges.oddsTerm();
        edges.lawTerm();
        edges.songTerm();
        edges.mean();
        edges.odds();
        edges.law();
        edges.song();
        edges.songs();
    }

    /** A load costs the HEAT, 30 less the COLD. */
    private static CricketHay cold(String more) {
        return Texts.of("kind k;dealer a of k song 0;dealer b of k song 0;heat 30;" + more);
    }

    private void odds(CricketHay x, int price, int n, int upper, int lower) {
        String call = "odds(0, 1, " + price + ", " + n + ", ";
        e.due(call + "0)", upper, x.odds(0, 1, price, n, 0));
        e.due(call + "1)", lower, x.odds(0, 1, price, n, 1));
        e.due(call + "0), the other way", upper, x.odds(1, 0, price, n, 0));
    }

    private void mean(CricketHay x, int n, int upper, int lower) {
        String call = "mean(0, 1, " + n + ", ";
        e.due(call + "0)", upper, x.mean(0, 1, n, 0));
        e.due(call + "1)", lower, x.mean(0, 1, n, 1));
        e.due(call + "0), the other way", upper, x.mean(1, 0, n, 0));
    }

    // ---- Terms ----

    private void oddsTerm() {
        e.says("Terms", "ODDS: that the PRICE between two is a told one at least behind n HOURS, if in"
            + " each there is a snap by as much as is told, by itself, whatever the SEED is.");
        for (int draw : new int[] {0, 9, 17, 44, 999}) {
            CricketHay x = cold("snap 25 of 4;draw " + draw + ";");
            odds(x, 30, 0, 1, 1);
            odds(x, 31, 0, 0, 1);
            // Behind an HOUR 30 or 26, by 3 and 1 of 4.
            odds(x, 31, 1, 0, 1);
            odds(x, 30, 1, 3, 4);
            odds(x, 27, 1, 3, 4);
            odds(x, 26, 1, 1, 1);
            // Behind two 30, 27, 26, 23, by 9, 3, 3, 1 of 16.
            odds(x, 30, 2, 9, 16);
            odds(x, 27, 2, 3, 4);
            odds(x, 26, 2, 15, 16);
            odds(x, 24, 2, 15, 16);
            odds(x, 23, 2, 1, 1);
            odds(x, 30, 3, 27, 64);
            odds(x, 30, 4, 81, 256);
        }
        odds(cold("snap 100 of 20;"), 10, 1, 1, 1);
        odds(cold("snap 100 of 20;"), 11, 1, 0, 1);
        odds(cold("snap 100 of 20;"), 1, 2, 0, 1);
        odds(cold("snap 0 of 20;"), 30, 4, 1, 1);
        odds(cold(""), 30, 4, 1, 1);
        odds(cold(""), 31, 4, 0, 1);
        odds(cold("snap 1 of 1;"), 30, 1, 99, 100);
        odds(cold("snap 99 of 1;"), 30, 1, 1, 100);
        odds(cold("snap 99 of 1;"), 30, 4, 1, 100);
        odds(cold("snap 99 of 4;"), 30, 4, 1, 100000000);
        odds(cold("snap 1 of 4;"), 30, 4, 96059601, 100000000);
        CricketHay x = cold("snap 50 of 5;chirps heat;");
        x.breathe(0, 5);
        x.breathe(1, 5);
        odds(x, 35, 0, 1, 1);
        odds(x, 35, 1, 0, 1);
        odds(x, 30, 1, 1, 2);
    }

    private static CricketHay ages(int... ages) {
        StringBuilder text = new StringBuilder("kind k;chirps age;");
        for (int i = 0; i < ages.length; i++) {
            text.append("dealer ").append((char) ('a' + i)).append(" of k song 1 age ")
                .append(ages[i]).append(';');
        }
        return Texts.of(text.toString());
    }

    private void laws(CricketHay x, int greater, int lesser, int both) {
        e.due("law(1)", greater, x.law(1));
        e.due("law(2)", lesser, x.law(2));
        e.due("law(3)", both, x.law(3));
    }

    private void lawTerm() {
        e.says("Terms", "LAW: by how much more all PRICES (each two once) would be together, if not "
            + "the half of both CHIRPS counted, but the greater one (1), the lesser one (2), both "
            + "together (3).");
        laws(ages(), 0, 0, 0);
        laws(ages(50), 0, 0, 0);
        laws(ages(0, 1), 1, 0, 1);
        laws(ages(1, 0), 1, 0, 1);
        laws(ages(1, 2), 1, 0, 2);
        laws(ages(0, 99), 50, -49, 50);
        laws(ages(7, 7), 0, 0, 7);
        // PRICES of 15, 25, 30.
        laws(ages(10, 21, 40), 21 + 40 + 40 - 70, 10 + 10 + 21 - 70, 31 + 50 + 61 - 70);
        laws(ages(99, 99, 99, 99, 99, 99), 0, 0, 15 * 99);
        CricketHay x = ages(10, 20, 99);
        x.free(2);
        laws(x, 20 + 10 + 20 - 30, 10 - 30, 30 + 10 + 20 - 30);
    }

    private static CricketHay of(int... songs) {
        StringBuilder text = new StringBuilder("kind k;kind j;");
        for (int i = 0; i < songs.length; i++) {
            text.append("dealer ").append((char) ('a' + i)).append(" of ")
                .append(i % 2 == 0 ? 'k' : 'j').append(" song ").append(songs[i]).append(';');
        }
        return Texts.of(text.toString());
    }

    private void songs(CricketHay x, int... due) {
        for (int song = 0; song <= 9; song++) {
            e.due("song(" + song + ")", due[song], x.song(song));
        }
    }

    private void songTerm() {
        e.says("Terms", "SONG by mating: of two songs that are there (a song with itself, too) one "
            + "comes that is both together, modulo 10; it is there then, too; the fewest matings until"
            + " a told song is there.");
        songs(of(), -1, -1, -1, -1, -1, -1, -1, -1, -1, -1);
        songs(of(0), 0, -1, -1, -1, -1, -1, -1, -1, -1, -1);
        songs(of(5), 1, -1, -1, -1, -1, 0, -1, -1, -1, -1);
        // 2, 4, 8 by itself with itself, 6 of 2 and 4, 0 of 8 and 2, or 6 and 4.
        songs(of(2), 3, -1, 0, -1, 1, -1, 2, -1, 2, -1);
        songs(of(1), 4, 0, 1, 2, 2, 3, 3, 4, 3, 4);
        // 9 with itself 8, with 8 7, 8 with itself 6: all of 1, the other way round.
        songs(of(9), 4, 4, 3, 4, 3, 3, 2, 2, 1, 0);
        songs(of(0, 5), 0, -1, -1, -1, -1, 0, -1, -1, -1, -1);
        songs(of(4, 6), 1, -1, 1, -1, 0, -1, 0, -1, 1, -1);
        songs(of(9, 1), 1, 0, 1, 2, 2, 3, 2, 2, 1, 0);
        songs(of(0, 1, 2, 3, 4, 5), 0, 0, 0, 0, 0, 0, 1, 1, 1, 1);
    }

    // ---- Promises 27, 29 to 32 ----

    private void mean() {
        e.says("Promise 27: mean", "The PRICE between two behind n HOURS (0 .. 3) on the mean, if in "
            + "each there is a snap by as much as is told, by itself, the upper part (0), the lower "
            + "part (1), in lowest terms (0 of 1); NONE if one can't be.");
        for (int draw : new int[] {0, 9, 17, 44, 999}) {
            CricketHay x = cold("snap 25 of 4;draw " + draw + ";");
            mean(x, 0, 30, 1);
            mean(x, 1, 29, 1);
            // 30 less 28 of 16, and less 148 of 64.
            mean(x, 2, 113, 4);
            mean(x, 3, 443, 16);
        }
        mean(cold("snap 50 of 1;"), 1, 59, 2);
        mean(cold("snap 50 of 1;"), 3, 59, 2);
        mean(cold("snap 0 of 20;"), 3, 30, 1);
        mean(cold("snap 100 of 20;"), 1, 10, 1);
        mean(cold("snap 100 of 20;"), 3, 0, 1);
        mean(cold("chirps 0;snap 50 of 20;"), 3, 0, 1);
        mean(cold("chirps 99;snap 37 of 20;"), 3, 99, 1);
        mean(cold("snap 1 of 1;"), 1, 2999, 100);
        // 99, or 0 by three snaps and so a COLD of 4: once in a million.
        mean(cold("chirps (heat>26)*99;snap 1 of 2;"), 3, 99 * 999999, 1000000);
        CricketHay x = cold("");
        x.breathe(0, 4);
        mean(x, 0, 32, 1);
        mean(x, 1, 30, 1);
        for (int n : new int[] {Integer.MIN_VALUE, -1, 4, Integer.MAX_VALUE}) {
            e.refused("mean(0, 1, " + n + ", 0)", -1, () -> cold(""), y -> y.mean(0, 1, n, 0));
        }
        e.due("mean(0, 1, 4, 0) of 5", -1, cold("chirps 5;").mean(0, 1, 4, 0));
        e.due("mean(0, 1, 4, 1) of 5", -1, cold("chirps 5;").mean(0, 1, 4, 1));
        for (int part : new int[] {Integer.MIN_VALUE, -1, 2, Integer.MAX_VALUE}) {
            e.refused("mean(0, 1, 1, " + part + ")", -1, () -> cold(""),
                y -> y.mean(0, 1, 1, part));
        }
        for (int far : FAR) {
            e.refused("mean(0, " + far + ", 1, 0)", -1, () -> cold(""), y -> y.mean(0, far, 1, 0));
            e.refused("mean(" + far + ", 1, 1, 0)", -1, () -> cold(""), y -> y.mean(far, 1, 1, 0));
        }
        e.refused("mean(1, 1, 1, 0)", -1, () -> cold(""), y -> y.mean(1, 1, 1, 0));
    }

    private void odds() {
        e.says("Promise 29: odds", "ODDS (n 0 .. 4) the upper part (0), the lower part (1), in lowest "
            + "terms (0 of 1); NONE if one can't be.");
        CricketHay x = cold("snap 50 of 20;");
        odds(x, 30, 0, 1, 1);
        odds(x, 30, 1, 1, 2);
        odds(x, 30, 4, 1, 16);
        odds(x, 31, 0, 0, 1);
        odds(x, 31, 4, 0, 1);
        for (int n = 0; n <= 4; n++) {
            odds(x, 0, n, 1, 1);
            odds(x, -1, n, 1, 1);
            odds(x, Integer.MIN_VALUE, n, 1, 1);
            odds(x, 99, n, 0, 1);
            odds(x, 100, n, 0, 1);
            odds(x, Integer.MAX_VALUE, n, 0, 1);
        }
        odds(cold("chirps 99;"), 99, 4, 1, 1);
        odds(cold("chirps 99;"), 100, 4, 0, 1);
        for (int n : new int[] {Integer.MIN_VALUE, -1, 5, Integer.MAX_VALUE}) {
            e.refused("odds(0, 1, 30, " + n + ", 0)", -1, () -> cold(""),
                y -> y.odds(0, 1, 30, n, 0));
        }
        for (int part : new int[] {Integer.MIN_VALUE, -1, 2, Integer.MAX_VALUE}) {
            e.refused("odds(0, 1, 30, 1, " + part + ")", -1, () -> cold(""),
                y -> y.odds(0, 1, 30, 1, part));
        }
        for (int far : FAR) {
            e.refused("odds(0, " + far + ", 30, 1, 0)", -1, () -> cold(""),
                y -> y.odds(0, far, 30, 1, 0));
            e.refused("odds(" + far + ", 1, 30, 1, 0)", -1, () -> cold(""),
                y -> y.odds(far, 1, 30, 1, 0));
        }
        e.refused("odds(1, 1, 30, 1, 0)", -1, () -> cold(""), y -> y.odds(1, 1, 30, 1, 0));
    }

    private void law() {
        e.says("Promise 30: law", "LAW (1 .. 3); -1000000 for another one.");
        laws(ages(10, 20, 30), 20 + 30 + 30 - 60, 10 + 10 + 20 - 60, 60);
        for (int rule : new int[] {Integer.MIN_VALUE, -1, 0, 4, Integer.MAX_VALUE}) {
            e.refused("law(" + rule + ")", -1000000, () -> ages(10, 20, 30), x -> x.law(rule));
            e.due("law(" + rule + ") of nobody", -1000000, new CricketHay().law(rule));
        }
    }

    private void song() {
        e.says("Promise 31: song", "SONG by mating: how many matings (0: it is there); NONE if it "
            + "never comes, or for another song.");
        e.due("song(1), there", 0, of(1).song(1));
        e.due("song(9), behind the most matings", 4, of(1).song(9));
        e.due("song(3), never", -1, of(2).song(3));
        e.due("song(0) of nobody", -1, of().song(0));
        CricketHay x = of(1, 5);
        e.due("song(6) of two", 1, x.song(6));
        x.free(0);
        e.due("song(6), one being FREE", -1, x.song(6));
        e.due("song(0), one being FREE", 1, x.song(0));
        x.free(1);
        e.due("song(5), both being FREE", -1, x.song(5));
        for (int song : new int[] {Integer.MIN_VALUE, -1, 10, 11, 32, Integer.MAX_VALUE}) {
            e.refused("song(" + song + ")", -1, () -> of(1), y -> y.song(song));
        }
    }

    private void songs() {
        e.says("Promise 32: songs", "Songs that can be there behind so many matings at the most "
            + "(0 .. 9), as bits; NONE for another number.");
        int[] ofOne = {0b10, 0b110, 0b11110, 0b101111110, 1023, 1023, 1023, 1023, 1023, 1023};
        int[] ofFive = {1 << 5, 1 << 5 | 1, 33, 33, 33, 33, 33, 33, 33, 33};
        for (int matings = 0; matings <= 9; matings++) {
            e.due("songs(" + matings + ") of 1", ofOne[matings], of(1).songs(matings));
            e.due("songs(" + matings + ") of 5", ofFive[matings], of(5).songs(matings));
            e.due("songs(" + matings + ") of 0", 1, of(0).songs(matings));
            e.due("songs(" + matings + ") of nobody", 0, of().songs(matings));
        }
        e.due("songs(0) of 9", 512, of(9).songs(0));
        e.due("songs(0) of six", 0b1000011111, of(0, 1, 2, 3, 4, 9).songs(0));
        CricketHay x = of(1, 5);
        x.free(0);
        x.free(1);
        e.due("songs(9), all being FREE", 0, x.songs(9));
        for (int matings : new int[] {Integer.MIN_VALUE, -1, 10, Integer.MAX_VALUE}) {
            e.refused("songs(" + matings + ")", -1, () -> of(1), y -> y.songs(matings));
        }
    }
}
