/** Promises 31 and 32: songs that come by mating. */
final class SongTest {
    private static final Check CHECK = new Check("SongTest");

    public static void main(String[] args) {
        one();
        three();
        even();
        free();
        refused();
        CHECK.end();
    }

    private static CricketHay of(int... songs) {
        StringBuilder text = new StringBuilder("kind k;");
        char name = 'a';
        for (int song : songs) {
            text.append("dealer ").append(name).append(" of k song ").append(song).append(';');
            name++;
        }
        return Texts.of(text.toString());
    }

    private static void fewest(String when, CricketHay x, int... due) {
        for (int song = 0; song < 10; song++) {
            CHECK.due(when + ": song(" + song + ")", due[song], x.song(song));
        }
    }

    private static void one() {
        CricketHay x = of(1);
        // 1; 2; 3 4; 5 6 7 8 by 3 = 1 + 2 or 4 = 2 + 2; 7 = 3 + 4 takes one more.
        fewest("from 1", x, 4, 0, 1, 2, 2, 3, 3, 4, 3, 4);
        CHECK.due("songs(0)", 1 << 1, x.songs(0));
        CHECK.due("songs(1)", 1 << 1 | 1 << 2, x.songs(1));
        CHECK.due("songs(2)", 1 << 1 | 1 << 2 | 1 << 3 | 1 << 4, x.songs(2));
        CHECK.due("songs(3)", 1 << 1 | 1 << 2 | 1 << 3 | 1 << 4 | 1 << 5 | 1 << 6 | 1 << 8,
            x.songs(3));
        CHECK.due("songs(4)", 1023, x.songs(4));
        CHECK.due("songs(9)", 1023, x.songs(9));
    }

    private static void three() {
        CricketHay x = of(2, 6, 9);
        fewest("from 2, 6, 9", x, 2, 1, 0, 2, 1, 1, 0, 2, 1, 0);
        CHECK.due("songs(0)", 1 << 2 | 1 << 6 | 1 << 9, x.songs(0));
        CHECK.due("songs(1)", 886, x.songs(1));
        CHECK.due("songs(2)", 1023, x.songs(2));
    }

    private static void even() {
        fewest("from 5", of(5), 1, -1, -1, -1, -1, 0, -1, -1, -1, -1);
        fewest("from 0", of(0), 0, -1, -1, -1, -1, -1, -1, -1, -1, -1);
        // 4, then 8, 6 and 2; 0 by 4 + 6 or 8 + 2.
        fewest("from 4", of(4), 3, -1, 2, -1, 0, -1, 2, -1, 1, -1);
        CHECK.due("songs of 4", 1 | 1 << 2 | 1 << 4 | 1 << 6 | 1 << 8, of(4).songs(9));
        CHECK.due("songs of 5", 1 | 1 << 5, of(5).songs(9));
        fewest("from all", of(0, 1, 2, 3, 4, 5), 0, 0, 0, 0, 0, 0, 1, 1, 1, 1);
    }

    private static void free() {
        CricketHay x = of(2, 6, 9);
        x.free(2);
        CHECK.due("songs(0) of those that are there", 1 << 2 | 1 << 6, x.songs(0));
        CHECK.due("song(9) of them", -1, x.song(9));
        CHECK.due("song(8) of them", 1, x.song(8));
        x.free(0);
        x.free(1);
        CHECK.due("song(2) of none", -1, x.song(2));
        CHECK.due("songs(9) of none", 0, x.songs(9));
        CHECK.due("song(0) of nobody", -1, new CricketHay().song(0));
        x.undo();
        CHECK.due("song(6) of one again", 0, x.song(6));
    }

    private static void refused() {
        CricketHay x = of(1);
        int[] wrong = {-1, 10, 31, 32, 33, Integer.MAX_VALUE, Integer.MIN_VALUE};
        for (int w : wrong) {
            CHECK.due("song(" + w + ")", -1, x.song(w));
            CHECK.due("songs(" + w + ")", -1, x.songs(w));
        }
    }
}
