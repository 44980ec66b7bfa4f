import java.math.BigInteger;
import java.nio.charset.StandardCharsets;
import java.util.ArrayDeque;
import java.util.ArrayList;
import java.util.Arrays;
import java.util.Deque;
import java.util.HashSet;
import java.util.List;
import java.util.Set;
import java.util.TreeSet;

/** The document once more, in another and slower way, to compare answers with. */
final class Model {
    /** What changes; of each dealer: gold, loads, hunger, age, breath, free. */
    private static final class State {
        int[][] of;
        int cold;
        int hour;
        int day;
        int seed;

        State twin() {
            State twin = new State();
            twin.of = new int[of.length][];
            for (int i = 0; i < of.length; i++) {
                twin.of[i] = of[i].clone();
            }
            twin.cold = cold;
            twin.hour = hour;
            twin.day = day;
            twin.seed = seed;
            return twin;
        }
    }

    private record Heard(int heat, int chirps, boolean is, int from, int[] till) {
    }

    private static final int GOLD = 0;
    private static final int LOADS = 1;
    private static final int HUNGER = 2;
    private static final int AGE = 3;
    private static final int BREATH = 4;
    private static final int FREE = 5;

    private final StringBuilder tape = new StringBuilder();
    private ModelTexts told = new ModelTexts("");
    private State now = start(told);
    private final Deque<State> before = new ArrayDeque<>();
    private final Deque<State> behind = new ArrayDeque<>();
    private final State[] boxes = new State[3];
    private final List<Heard> hearings = new ArrayList<>();
    private List<Integer> lie = List.of();
    private int time = 0;
    private int fault = 0;
    private int place = -1;

    private static State start(ModelTexts told) {
        State state = new State();
        state.of = new int[told.dealers.size()][];
        for (int i = 0; i < state.of.length; i++) {
            int[] d = told.dealers.get(i);
            state.of[i] = new int[] {d[3], d[4], 0, d[2], 0, 0};
        }
        state.seed = told.draw;
        return state;
    }

    private int size() {
        return told.dealers.size();
    }

    private boolean is(int dealer) {
        return 0 <= dealer && dealer < size();
    }

    private boolean two(int a, int b) {
        return is(a) && is(b) && a != b;
    }

    private static int between(int least, int value, int most) {
        return value < least ? least : value > most ? most : value;
    }

    private static boolean in(int least, int value, int most) {
        return between(least, value, most) == value;
    }

    // ---- The text ----

    int feed(int... five) {
        if (tape.length() + 20 > 1600) {
            return -1;
        }
        for (int four : five) {
            byte[] bytes = BigInteger.valueOf(four & 0xffffffffL | 1L << 32).toByteArray();
            tape.append(new String(bytes, 1, 4, StandardCharsets.ISO_8859_1));
        }
        return tape.length();
    }

    int end(int n) {
        if (!in(0, n, tape.length())) {
            return -1;
        }
        tape.setLength(n);
        return n;
    }

    int market() {
        String text = tape.toString();
        tape.setLength(0);
        try {
            told = new ModelTexts(text);
        } catch (ModelTexts.Fault f) {
            fault = f.fault;
            place = f.place;
            return -1;
        }
        fault = 0;
        place = -1;
        now = start(told);
        before.clear();
        behind.clear();
        Arrays.fill(boxes, null);
        hearings.clear();
        lie = List.of();
        return size();
    }

    int fault(int what) {
        return what == 0 ? fault : what == 1 ? place : -1;
    }

    // ---- Singing ----

    private int heatIn(State s) {
        int value = told.heat == null ? 20
            : told.heat.worth(new int[] {0, 0, 0, 0, s.hour, s.day});
        return between(0, value - s.cold, 40);
    }

    private int matesIn(State s, int dealer) {
        int mates = 0;
        for (int i = 0; i < size(); i++) {
            mates += i != dealer && s.of[i][FREE] == 0
                && told.dealers.get(i)[0] == told.dealers.get(dealer)[0] ? 1 : 0;
        }
        return mates;
    }

    private int sing(int heat, int song, int age, int mates, State s) {
        int value = told.chirps == null ? heat + song
            : told.chirps.worth(new int[] {heat, song, age, mates, s.hour, s.day});
        return between(0, value, 99);
    }

    private int chirpsIn(State s, int dealer) {
        if (s.of[dealer][FREE] == 1) {
            return 0;
        }
        return sing(between(0, heatIn(s) + s.of[dealer][BREATH], 40), told.dealers.get(dealer)[1],
            s.of[dealer][AGE], matesIn(s, dealer), s);
    }

    private int priceIn(State s, int a, int b) {
        return (chirpsIn(s, a) + chirpsIn(s, b)) / 2;
    }

    private int chorusIn(State s) {
        int sum = 0;
        for (int i = 0; i < size(); i++) {
            sum += chirpsIn(s, i);
        }
        return sum;
    }

    private State step(State from, boolean bySeed, boolean snap) {
        State s = from.twin();
        s.seed = (137 * s.seed + 71) % 1000;
        s.cold = s.cold == 0 ? 0 : s.cold - 1;
        if (bySeed ? s.seed % 100 < told.chance : snap) {
            s.cold = Math.min(s.cold + told.snap, 40);
        }
        for (int[] dealer : s.of) {
            dealer[BREATH] = 0;
        }
        if (s.hour < 23) {
            s.hour++;
            return s;
        }
        s.hour = 0;
        s.day++;
        for (int i = 0; i < size(); i++) {
            int left = s.of[i][LOADS] - told.dealers.get(i)[5];
            s.of[i][LOADS] = left < 0 ? 0 : left;
            s.of[i][HUNGER] += left < 0 ? -left : 0;
            s.of[i][AGE] = Math.min(s.of[i][AGE] + 1, 99);
        }
        return s;
    }

    private State later(State from, int hours) {
        State s = from;
        for (int i = 0; i < hours; i++) {
            s = step(s, true, false);
        }
        return s;
    }

    int dealer(int dealer, int what) {
        if (!is(dealer) || !in(0, what, 10)) {
            return -100;
        }
        int[] d = told.dealers.get(dealer);
        int[] s = now.of[dealer];
        return new int[] {s[GOLD], s[LOADS], d[5], s[HUNGER], d[0], d[1], s[AGE], s[BREATH],
            s[FREE], chirpsIn(now, dealer), matesIn(now, dealer)}[what];
    }

    int heat() {
        return heatIn(now);
    }

    int price(int a, int b) {
        return two(a, b) ? priceIn(now, a, b) : -1;
    }

    int cheapest(int dealer) {
        int best = -1;
        for (int price = 99; price >= 0 && is(dealer); price--) {
            for (int i = size() - 1; i >= 0; i--) {
                if (i != dealer && now.of[i][LOADS] > 0 && priceIn(now, dealer, i) == price
                    && price <= now.of[dealer][GOLD]) {
                    best = i;
                }
            }
        }
        return best;
    }

    int chorus() {
        return chorusIn(now);
    }

    int lasts(int dealer) {
        if (!is(dealer) || told.dealers.get(dealer)[5] == 0) {
            return -1;
        }
        int days = 0;
        for (int left = now.of[dealer][LOADS]; left >= told.dealers.get(dealer)[5];
            left -= told.dealers.get(dealer)[5]) {
            days++;
        }
        return days;
    }

    // ---- Acts ----

    private void act(State next) {
        before.push(now);
        if (before.size() > 40) {
            before.removeLast();
        }
        behind.clear();
        now = next;
    }

    int buy(int a, int b, int loads) {
        if (!two(a, b) || !in(1, loads, 9) || loads > told.cart || loads > now.of[b][LOADS]
            || loads * priceIn(now, a, b) > now.of[a][GOLD]) {
            return -1;
        }
        int paid = loads * priceIn(now, a, b);
        State next = now.twin();
        next.of[a][GOLD] -= paid;
        next.of[b][GOLD] += paid;
        next.of[a][LOADS] += loads;
        next.of[b][LOADS] -= loads;
        act(next);
        return paid;
    }

    int breathe(int a, int breath) {
        if (!is(a) || !in(-5, breath, 5) || now.of[a][FREE] == 1 || now.of[a][BREATH] == breath) {
            return -100;
        }
        int was = now.of[a][BREATH];
        State next = now.twin();
        next.of[a][BREATH] = breath;
        act(next);
        return was;
    }

    int free(int a) {
        if (!is(a) || now.of[a][FREE] == 1) {
            return -1;
        }
        int was = chirpsIn(now, a);
        act(freed(now, a));
        return was;
    }

    private static State freed(State from, int a) {
        State next = from.twin();
        next.of[a][FREE] = 1;
        return next;
    }

    int hour() {
        if (now.hour == 23 && now.day == 999) {
            return -1;
        }
        act(step(now, true, false));
        return heatIn(now);
    }

    boolean undo() {
        if (before.isEmpty()) {
            return false;
        }
        behind.push(now);
        now = before.pop();
        return true;
    }

    boolean redo() {
        if (behind.isEmpty()) {
            return false;
        }
        before.push(now);
        now = behind.pop();
        return true;
    }

    // ---- What hours bring ----

    int will(int a, int b, int n) {
        return two(a, b) && in(0, n, 60) ? priceIn(later(now, n), a, b) : -1;
    }

    int low(int a, int b, int n) {
        int best = two(a, b) && in(0, n, 60) ? 0 : -1;
        for (int i = 1; best >= 0 && i <= n; i++) {
            best = will(a, b, i) < will(a, b, best) ? i : best;
        }
        return best;
    }

    int high(int a, int b, int n) {
        int best = two(a, b) && in(0, n, 60) ? 0 : -1;
        for (int i = 1; best >= 0 && i <= n; i++) {
            best = will(a, b, i) > will(a, b, best) ? i : best;
        }
        return best;
    }

    int plan(int a, int b, int loads, int hours) {
        lie = List.of();
        if (!two(a, b) || !in(1, loads, 20) || !in(1, hours, 12) || told.cart * hours < loads) {
            return -1;
        }
        // least[h][n]: what n loads cost from hour h on.
        long[][] least = new long[hours + 1][loads + 1];
        Arrays.fill(least[hours], 1L << 40);
        least[hours][0] = 0;
        for (int h = hours - 1; h >= 0; h--) {
            for (int n = 0; n <= loads; n++) {
                least[h][n] = 1L << 40;
                for (int many = 0; many <= Math.min(n, told.cart); many++) {
                    least[h][n] = Math.min(least[h][n],
                        many * will(a, b, h) + least[h + 1][n - many]);
                }
            }
        }
        List<Integer> plan = new ArrayList<>();
        int left = loads;
        for (int h = 0; h < hours; h++) {
            int many = Math.min(left, told.cart);
            while (many * will(a, b, h) + least[h + 1][left - many] != least[h][left]) {
                many--;
            }
            plan.add(many);
            left -= many;
        }
        lie = plan;
        return (int) least[0][loads];
    }

    int gain(int a) {
        lie = List.of();
        int best = -1000;
        for (int one = 0; one < size(); one++) {
            for (int other = 0; other < size(); other++) {
                if (two(a, one) && two(a, other) && one != other && now.of[one][LOADS] > 0
                    && now.of[a][GOLD] >= price(a, one)
                    && now.of[other][GOLD] >= price(a, other)
                    && price(a, other) - price(a, one) > best) {
                    best = price(a, other) - price(a, one);
                    lie = List.of(one, other);
                }
            }
        }
        return best;
    }

    int clear(int what) {
        lie = List.of();
        if (!in(0, what, 1)) {
            return -1;
        }
        int n = size();
        int[] best = null;
        int[] of = new int[n];
        Arrays.fill(of, -1);
        int mostSold = -1;
        int leastPaid = 0;
        boolean more = true;
        while (more) {
            int[] sold = new int[n];
            int count = 0;
            int paid = 0;
            boolean good = true;
            for (int i = 0; i < n; i++) {
                if (of[i] >= 0) {
                    good &= of[i] != i && now.of[i][LOADS] < told.dealers.get(i)[5]
                        && price(i, of[i]) <= now.of[i][GOLD];
                    sold[of[i]]++;
                    count++;
                    paid += price(i, of[i]);
                }
            }
            for (int i = 0; i < n; i++) {
                good &= sold[i] == 0 || sold[i] <= now.of[i][LOADS] - told.dealers.get(i)[5];
            }
            if (good && (count > mostSold || count == mostSold && paid < leastPaid)) {
                best = of.clone();
                mostSold = count;
                leastPaid = paid;
            }
            more = next(of);
        }
        List<Integer> from = new ArrayList<>();
        for (int i = 0; i < n; i++) {
            from.add(best[i]);
        }
        lie = from;
        return what == 0 ? mostSold : leastPaid;
    }

    /** The next in order of those who buy of whom; only they in need go on from nobody. */
    private boolean next(int[] of) {
        for (int i = of.length - 1; i >= 0; i--) {
            if (now.of[i][LOADS] < told.dealers.get(i)[5]) {
                if (of[i] < of.length - 1) {
                    of[i]++;
                    return true;
                }
                of[i] = -1;
            }
        }
        return false;
    }

    private int pricesIn(State s, int rule) {
        int sum = 0;
        for (int a = 0; a < size(); a++) {
            for (int b = 0; b < a; b++) {
                int[] both = {chirpsIn(s, a), chirpsIn(s, b)};
                Arrays.sort(both);
                sum += rule == 0 ? (both[0] + both[1]) / 2 : rule == 1 ? both[1]
                    : rule == 2 ? both[0] : both[0] + both[1];
            }
        }
        return sum;
    }

    int spoils(int a) {
        if (!is(a) || now.of[a][FREE] == 1) {
            return -1000000;
        }
        return pricesIn(now, 0) - pricesIn(freed(now, a), 0);
    }

    int starve(int n) {
        if (!in(0, n, 60)) {
            return -1;
        }
        int sum = 0;
        for (int[] dealer : later(now, n).of) {
            sum += dealer[HUNGER];
        }
        return sum;
    }

    int hush(int chirps) {
        if (in(0, chirps, 594)) {
            for (int n = 0; n <= 60; n++) {
                if (chorusIn(later(now, n)) <= chirps) {
                    return n;
                }
            }
        }
        return -1;
    }

    // ---- Chances ----

    /** How much of 100 to the n: of the mean (price below 0), or of what is that price at least. */
    private BigInteger weigh(State s, int a, int b, int n, long least) {
        if (n == 0) {
            int price = priceIn(s, a, b);
            return BigInteger.valueOf(least == Long.MIN_VALUE ? price : price >= least ? 1 : 0);
        }
        return weigh(step(s, false, true), a, b, n - 1, least)
            .multiply(BigInteger.valueOf(told.chance))
            .add(weigh(step(s, false, false), a, b, n - 1, least)
                .multiply(BigInteger.valueOf(100 - told.chance)));
    }

    private int part(BigInteger sum, int n, int part) {
        BigInteger whole = BigInteger.valueOf(100).pow(n);
        BigInteger divisor = sum.gcd(whole);
        return (part == 0 ? sum : whole).divide(divisor).intValueExact();
    }

    int mean(int a, int b, int n, int part) {
        return two(a, b) && in(0, n, 3) && in(0, part, 1)
            ? part(weigh(now, a, b, n, Long.MIN_VALUE), n, part) : -1;
    }

    int odds(int a, int b, int price, int n, int part) {
        return two(a, b) && in(0, n, 4) && in(0, part, 1)
            ? part(weigh(now, a, b, n, price), n, part) : -1;
    }

    int rest(int buyer, int seller, int loads) {
        lie = List.of();
        if (!two(buyer, seller) || !in(1, loads, 9) || now.of[buyer][FREE] == 1
            || now.of[seller][FREE] == 1) {
            return -1;
        }
        int count = 0;
        for (int b = 2; b >= -2; b--) {
            for (int s = 2; s >= -2; s--) {
                boolean good = true;
                for (int other = -2; other <= 2; other++) {
                    good &= worth(buyer, seller, loads, other, s)[0]
                        <= worth(buyer, seller, loads, b, s)[0];
                    good &= worth(buyer, seller, loads, b, other)[1]
                        <= worth(buyer, seller, loads, b, s)[1];
                }
                if (good) {
                    count++;
                    lie = List.of(b, s);
                }
            }
        }
        return count;
    }

    private int[] worth(int buyer, int seller, int loads, int b, int s) {
        State state = now.twin();
        state.of[buyer][BREATH] = b;
        state.of[seller][BREATH] = s;
        int paid = loads * priceIn(state, buyer, seller);
        return new int[] {-paid - 3 * Math.abs(b), paid - 3 * Math.abs(s)};
    }

    int law(int rule) {
        return in(1, rule, 3) ? pricesIn(now, rule) - pricesIn(now, 0) : -1000000;
    }

    // ---- Songs ----

    private Set<Set<Integer>> bred(int matings) {
        Set<Integer> first = new TreeSet<>();
        for (int i = 0; i < size(); i++) {
            if (now.of[i][FREE] == 0) {
                first.add(told.dealers.get(i)[1]);
            }
        }
        Set<Set<Integer>> all = new HashSet<>();
        all.add(first);
        for (int i = 0; i < matings; i++) {
            Set<Set<Integer>> more = new HashSet<>();
            for (Set<Integer> songs : all) {
                for (int one : songs) {
                    for (int other : songs) {
                        Set<Integer> next = new TreeSet<>(songs);
                        next.add((one + other) % 10);
                        more.add(next);
                    }
                }
            }
            all.addAll(more);
        }
        return all;
    }

    int song(int song) {
        for (int matings = 0; matings <= 9; matings++) {
            for (Set<Integer> songs : bred(matings)) {
                if (songs.contains(song)) {
                    return matings;
                }
            }
        }
        return -1;
    }

    int songs(int matings) {
        if (!in(0, matings, 9)) {
            return -1;
        }
        Set<Integer> can = new TreeSet<>();
        bred(matings).forEach(can::addAll);
        return can.stream().mapToInt(song -> 1 << song).sum();
    }

    int lies(int i) {
        return in(0, i, lie.size() - 1) ? lie.get(i) : -100;
    }

    // ---- The stranger's cricket ----

    int heard(int heat, int chirps, boolean is) {
        if (!in(0, heat, 40) || !in(0, chirps, 99) || hearings.size() == 30) {
            return -1;
        }
        hearings.add(new Heard(heat, chirps, is, time, new int[] {Integer.MAX_VALUE, 0}));
        return hearings.size() - 1;
    }

    boolean untell(int heard) {
        if (!in(0, heard, hearings.size() - 1) || hearings.get(heard).till[1] == 1) {
            return false;
        }
        hearings.get(heard).till[0] = time;
        hearings.get(heard).till[1] = 1;
        return true;
    }

    int later(int by) {
        if (!in(0, by, 1000) || time + by > 100000) {
            return -1;
        }
        time += by;
        return time;
    }

    private List<int[]> fitting(int k) {
        List<int[]> fitting = new ArrayList<>();
        for (int song = 0; song <= 9; song++) {
            for (int age = 0; age <= 9; age++) {
                boolean good = true;
                for (Heard h : hearings) {
                    boolean known = h.from <= k && !(h.till[1] == 1 && h.till[0] <= k);
                    good &= !known || h.is == (sing(h.heat, song, age, 0, now) >= h.chirps);
                }
                if (good) {
                    fitting.add(new int[] {song, age});
                }
            }
        }
        return fitting;
    }

    int fits(int k) {
        return fitting(k).size();
    }

    int sure(int k) {
        Set<Integer> songs = new HashSet<>();
        fitting(k).forEach(fit -> songs.add(fit[0]));
        return songs.isEmpty() ? -1 : songs.size() > 1 ? -2 : songs.iterator().next();
    }

    int ask(int chirps, int what, int k) {
        List<int[]> fitting = fitting(k);
        if (!in(0, chirps, 99) || !in(0, what, 1) || fitting.isEmpty()) {
            return -1;
        }
        int best = -1;
        long fewest = 1000;
        for (int heat = 0; heat <= 40; heat++) {
            int at = heat;
            long have = fitting.stream().filter(f -> sing(at, f[0], f[1], 0, now) >= chirps).count();
            long left = have > fitting.size() - have ? have : fitting.size() - have;
            if (left < fewest) {
                fewest = left;
                best = heat;
            }
        }
        return what == 0 ? best : (int) fewest;
    }

    // ---- Images ----

    int image(int box) {
        if (!in(0, box, 2)) {
            return -1;
        }
        boxes[box] = now;
        return now.day;
    }

    int back(int box) {
        if (!in(0, box, 2) || boxes[box] == null) {
            return -1;
        }
        now = boxes[box];
        before.clear();
        behind.clear();
        return now.day;
    }

    int about(int what) {
        int[] all = {size(), told.kinds.size(), told.cart, now.hour, now.day, now.seed, now.cold,
            before.size(), behind.size(), hearings.size(), time, tape.length(), told.units,
            lie.size()};
        return in(0, what, all.length - 1) ? all[what] : -1;
    }
}
