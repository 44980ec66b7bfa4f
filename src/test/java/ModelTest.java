import java.nio.charset.StandardCharsets;
import java.util.Random;

/** Promises 1 to 42: long runs of calls, told by numbers that are always the same ones, against Model. */
final class ModelTest {
    private static final Check CHECK = new Check("ModelTest");
    private static final int RUNS = 300;
    private static final int CALLS = 512;

    private final Random random;
    private final CricketHay hay = new CricketHay();
    private final Model model = new Model();
    private int calls = 0;

    private ModelTest(long seed) {
        random = new Random(seed);
    }

    public static void main(String[] args) {
        int runs = args.length > 0 ? Integer.parseInt(args[0]) : RUNS;
        long first = args.length > 1 ? Long.parseLong(args[1]) : 0;
        for (long seed = first; seed < first + runs; seed++) {
            new ModelTest(seed).run(seed);
        }
        CHECK.end();
    }

    private void run(long seed) {
        if (random.nextInt(20) != 0) {
            market(false);
        }
        while (calls < CALLS) {
            if (random.nextInt(120) == 0) {
                market(random.nextInt(3) != 0);
                if (model.about(0) < 2 && random.nextInt(4) != 0) {
                    market(false);
                }
            } else {
                call(seed);
            }
        }
    }

    private void due(String call, int want, int got) {
        calls++;
        CHECK.due(call + " as call " + calls, want, got);
    }

    private void due(String call, boolean want, boolean got) {
        due(call, want ? 1 : 0, got ? 1 : 0);
    }

    private void market(boolean spoilt) {
        RandomText text = new RandomText(random);
        String told = spoilt ? text.spoilt() : text.good();
        byte[] bytes = told.getBytes(StandardCharsets.ISO_8859_1);
        due("end(0)", model.end(0), hay.end(0));
        for (int i = 0; i < bytes.length; i += 20) {
            int[] five = new int[5];
            for (int j = 0; j < 5; j++) {
                five[j] = Texts.four(bytes, i + 4 * j);
            }
            due("feed", model.feed(five), hay.feed(five[0], five[1], five[2], five[3], five[4]));
        }
        due("end", model.end(bytes.length), hay.end(bytes.length));
        due("market of " + told, model.market(), hay.market());
        due("fault(0) of " + told, model.fault(0), hay.fault(0));
        due("fault(1) of " + told, model.fault(1), hay.fault(1));
    }

    /** Mostly from least to most, now and then beyond. */
    private int some(int least, int most) {
        switch (random.nextInt(40)) {
            case 0: return least - 1;
            case 1: return most + 1;
            case 2: return random.nextInt();
            default: return least + random.nextInt(most - least + 1);
        }
    }

    private int one() {
        return some(0, Math.max(0, model.about(0) - 1));
    }

    private int moment() {
        return random.nextInt(4) == 0 ? some(-1, 50) : model.about(10) - random.nextInt(8);
    }

    private void call(long seed) {
        int a = one();
        int b = random.nextInt(8) == 0 ? one() : a + 1 + random.nextInt(Math.max(1, model.about(0) - 1));
        b = b >= model.about(0) && random.nextInt(8) != 0 ? b - model.about(0) : b;
        int n = some(0, 60);
        int few = some(0, 4);
        int part = some(0, 1);
        int k = moment();
        switch (random.nextInt(44)) {
            case 0: due("fault", model.fault(few), hay.fault(few)); break;
            case 1: all(); break;
            case 2: due("heat", model.heat(), hay.heat()); break;
            case 3: due("price", model.price(a, b), hay.price(a, b)); break;
            case 4: due("cheapest", model.cheapest(a), hay.cheapest(a)); break;
            case 5: due("chorus", model.chorus(), hay.chorus()); break;
            case 6: due("lasts", model.lasts(a), hay.lasts(a)); break;
            case 7: case 8: buy(a, b); break;
            case 9: case 10: breathe(a); break;
            case 11: free(a); break;
            case 12: case 13: hours(); break;
            case 14: due("undo", model.undo(), hay.undo()); break;
            case 15: due("redo", model.redo(), hay.redo()); break;
            case 16: due("will", model.will(a, b, n), hay.will(a, b, n)); break;
            case 17: due("low", model.low(a, b, n), hay.low(a, b, n)); break;
            case 18: due("high", model.high(a, b, n), hay.high(a, b, n)); break;
            case 19: case 20: plan(a, b); break;
            case 21: case 22: due("gain", model.gain(a), hay.gain(a)); lies(); break;
            case 23: case 24: due("clear", model.clear(part), hay.clear(part)); lies(); break;
            case 25: due("spoils", model.spoils(a), hay.spoils(a)); break;
            case 26: due("starve", model.starve(n), hay.starve(n)); break;
            case 27: hush(); break;
            case 28: due("mean", model.mean(a, b, few, part), hay.mean(a, b, few, part)); break;
            case 29: case 30: rest(a, b); break;
            case 31: odds(a, b, few, part); break;
            case 32: due("law", model.law(few), hay.law(few)); break;
            case 33: song(); break;
            case 34: lies(); break;
            case 35: case 36: heard(); break;
            case 37: untell(); break;
            case 38: later(); break;
            case 39: due("fits(" + k + ")", model.fits(k), hay.fits(k)); break;
            case 40: due("sure(" + k + ")", model.sure(k), hay.sure(k)); break;
            case 41: ask(part, k); break;
            case 42: due("image", model.image(few), hay.image(few)); break;
            default: back(few); break;
        }
    }

    private void all() {
        for (int i = -1; i <= 14; i++) {
            due("about(" + i + ")", model.about(i), hay.about(i));
        }
        int d = one();
        for (int i = -1; i <= 11; i++) {
            due("dealer(" + d + ", " + i + ")", model.dealer(d, i), hay.dealer(d, i));
        }
    }

    private void lies() {
        due("about(13)", model.about(13), hay.about(13));
        for (int i = 0; i <= model.about(13); i++) {
            due("lies(" + i + ")", model.lies(i), hay.lies(i));
        }
    }

    private void buy(int a, int b) {
        int loads = some(1, 9);
        due("buy", model.buy(a, b, loads), hay.buy(a, b, loads));
    }

    private void breathe(int a) {
        int breath = some(-5, 5);
        due("breathe", model.breathe(a, breath), hay.breathe(a, breath));
    }

    private void free(int a) {
        if (random.nextInt(4) == 0) {
            due("free", model.free(a), hay.free(a));
        }
    }

    private void hours() {
        int many = random.nextInt(5) == 0 ? 24 : 1;
        for (int i = 0; i < many; i++) {
            due("hour", model.hour(), hay.hour());
        }
    }

    private void plan(int a, int b) {
        int loads = some(1, 20);
        int hours = some(1, 12);
        due("plan", model.plan(a, b, loads, hours), hay.plan(a, b, loads, hours));
        lies();
    }

    private void hush() {
        int chirps = random.nextBoolean() ? some(0, 594)
            : Math.max(0, model.chorus() - random.nextInt(20));
        due("hush(" + chirps + ")", model.hush(chirps), hay.hush(chirps));
    }

    private void rest(int a, int b) {
        int loads = some(1, 9);
        due("rest", model.rest(a, b, loads), hay.rest(a, b, loads));
        lies();
    }

    private void odds(int a, int b, int few, int part) {
        int price = random.nextBoolean() ? some(0, 99) : model.price(a, b) + random.nextInt(5) - 2;
        due("odds", model.odds(a, b, price, few, part), hay.odds(a, b, price, few, part));
    }

    private void song() {
        int song = some(0, 9);
        due("song", model.song(song), hay.song(song));
        int matings = some(0, 9);
        due("songs", model.songs(matings), hay.songs(matings));
    }

    private void heard() {
        int heat = some(0, 40);
        int chirps = some(0, 99);
        // Mostly as if the stranger's cricket sang 30, so that some fit for long.
        boolean is = random.nextInt(9) == 0 ? random.nextBoolean() : chirps <= 30;
        due("heard", model.heard(heat, chirps, is), hay.heard(heat, chirps, is));
    }

    private void untell() {
        int heard = random.nextInt(3) == 0 ? some(0, 29) : model.about(9) - 1 - random.nextInt(3);
        due("untell", model.untell(heard), hay.untell(heard));
    }

    private void later() {
        int by = random.nextInt(8) == 0 ? some(0, 1000) : random.nextInt(4);
        due("later", model.later(by), hay.later(by));
    }

    private void ask(int part, int k) {
        int chirps = some(0, 99);
        due("ask(" + chirps + ", " + part + ", " + k + ")", model.ask(chirps, part, k),
            hay.ask(chirps, part, k));
    }

    private void back(int box) {
        if (random.nextInt(3) == 0) {
            due("back", model.back(box), hay.back(box));
        }
    }
}
