import java.util.Arrays;

/**
 * A market of hay whose prices are sung: a load costs half of what the buyer's and the seller's
 * crickets chirp together. The promises that bind each method stand in ../shared/DOC.md.
 *
 * <p>All rows are made in constructors and used again, since nothing is ever given back.
 */
public final class CricketHay {
    /** There is none. */
    public static final int NONE = -1;

    // Answers of calls for which NONE could be a true answer.
    private static final int NO_VALUE = -100;
    private static final int NO_GAIN = -1000;
    private static final int NO_SUM = -1000000;
    private static final int SEVERAL = -2;

    private static final int TAPE_BYTES = 1600;
    private static final int FEED_BYTES = 20;
    private static final int KINDS = 3;
    private static final int DEALERS = 6;
    private static final int ACTS = 40;
    private static final int BOXES = 3;
    private static final int HEARINGS = 30;
    private static final int SONGS = 10;
    private static final int AGES = 10;
    private static final int MOST_HEAT = 40;
    private static final int MOST_CHIRPS = 99;
    private static final int MOST_COLD = 40;
    private static final int MOST_BREATH = 5;
    private static final int MOST_AGE = 99;
    private static final int LAST_HOUR = 23;
    private static final int LAST_DAY = 999;
    private static final int LAST_TIME = 100000;
    private static final int HOURS_AHEAD = 60;
    private static final int PLAN_HOURS = 12;
    private static final int PLAN_LOADS = 20;
    private static final int MOST_LOADS = 9;
    private static final int REST_BREATH = 2;
    private static final int REST_ROW = 2 * REST_BREATH + 1;
    private static final int STEP_COST = 3;

    // How a price comes of two crickets' chirps: by the law, and by the other ones of law().
    private static final int HALF = 0;
    private static final int GREATER = 1;
    private static final int LESSER = 2;
    private static final int BOTH = 3;

    // Tokens: a sign is its own character, which is above BAD and below KIND.
    private static final int END = 0;
    private static final int NUMBER = 1;
    private static final int NAME = 2;
    private static final int BAD = 3;
    private static final int KIND = 256;
    private static final int DEALER = 257;
    private static final int OF = 258;
    private static final int SONG = 259;
    private static final int AGE = 260;
    private static final int GOLD = 261;
    private static final int LOADS = 262;
    private static final int NEEDS = 263;
    private static final int CHIRPS = 264;
    private static final int HEAT = 265;
    private static final int SNAP = 266;
    private static final int CART = 267;
    private static final int DRAW = 268;
    private static final int OR = 269;
    private static final int AND = 270;
    private static final int NOT = 271;
    private static final int MATES = 272;
    private static final int HOUR = 273;
    private static final int DAY = 274;

    // The words that stand for themselves, eight signs each, in the order of their tokens.
    private static final String WORDS =
        "kind    dealer  of      song    age     gold    loads   needs   chirps  heat    snap    cart    draw    or      and     not     mates   hour    day     ";
    private static final int WORD_SIGNS = 8;
    private static final int NUMBER_SIGNS = 4;
    private static final int FORMULA_UNITS = 30;
    private static final int NESTING = 6;

    private static final int NO_TOKEN = 1;
    private static final int MISPLACED = 2;
    private static final int TOLD_ALREADY = 3;
    private static final int BAD_NUMBER = 4;
    private static final int NO_KIND = 5;

    private final Reader reader = new Reader();
    private Market told = new Market();
    private Market draft = new Market();
    private final Yard now = new Yard();
    private final Yard ahead = new Yard();
    private final Choir choir = new Choir();
    private final Acts acts = new Acts();
    private final Boxes boxes = new Boxes();
    private final Ears ears = new Ears();
    private final Mating mating = new Mating();
    private final Clearing clearing = new Clearing();
    private final Lie lie = new Lie();
    private final int[] row = new int[REST_ROW * REST_ROW];

    public CricketHay() {
        now.open(told);
    }

    // ---- The text ----

    public int feed(int a, int b, int c, int d, int e) {
        if (reader.length > TAPE_BYTES - FEED_BYTES) {
            return NONE;
        }
        reader.put(a);
        reader.put(b);
        reader.put(c);
        reader.put(d);
        reader.put(e);
        return reader.length;
    }

    public int end(int n) {
        if (n < 0 || n > reader.length) {
            return NONE;
        }
        reader.length = n;
        return n;
    }

    public int market() {
        boolean good = reader.read(draft);
        reader.length = 0;
        if (!good) {
            return NONE;
        }
        Market before = told;
        told = draft;
        draft = before;
        now.open(told);
        acts.forget();
        boxes.empty();
        ears.forget();
        lie.wipe();
        return told.dealers;
    }

    public int fault(int what) {
        if (what == 0) {
            return reader.fault;
        }
        return what == 1 ? reader.faultPlace : NONE;
    }

    // ---- What is now ----

    public int dealer(int dealer, int what) {
        if (!told.has(dealer)) {
            return NO_VALUE;
        }
        switch (what) {
            case 0: return now.gold[dealer];
            case 1: return now.loads[dealer];
            case 2: return told.needs[dealer];
            case 3: return now.hunger[dealer];
            case 4: return told.kind[dealer];
            case 5: return told.song[dealer];
            case 6: return now.age[dealer];
            case 7: return now.breath[dealer];
            case 8: return now.freed[dealer];
            case 9: choir.tune(told, now); return choir.sings[dealer];
            case 10: return now.mates(told, dealer);
            default: return NO_VALUE;
        }
    }

    public int heat() {
        return now.warmth(told);
    }

    public int price(int dealer, int other) {
        if (!areTwo(dealer, other)) {
            return NONE;
        }
        choir.tune(told, now);
        return choir.half(dealer, other);
    }

    public int cheapest(int dealer) {
        if (!told.has(dealer)) {
            return NONE;
        }
        choir.tune(told, now);
        int best = NONE;
        for (int other = 0; other < told.dealers; other++) {
            if (canBuyOne(dealer, other)
                && (best == NONE || choir.half(dealer, other) < choir.half(dealer, best))) {
                best = other;
            }
        }
        return best;
    }

    public int chorus() {
        choir.tune(told, now);
        return choir.together();
    }

    public int lasts(int dealer) {
        if (!told.has(dealer) || told.needs[dealer] <= 0) {
            return NONE;
        }
        return now.loads[dealer] / told.needs[dealer];
    }

    // ---- Acts ----

    public int buy(int dealer, int other, int loads) {
        if (!areTwo(dealer, other) || loads < 1 || loads > told.cart
            || loads > now.loads[other]) {
            return NONE;
        }
        choir.tune(told, now);
        int paid = loads * choir.half(dealer, other);
        if (paid > now.gold[dealer]) {
            return NONE;
        }
        acts.keep(now);
        now.gold[dealer] -= paid;
        now.gold[other] += paid;
        now.loads[dealer] += loads;
        now.loads[other] -= loads;
        return paid;
    }

    public int breathe(int dealer, int breath) {
        if (!told.has(dealer) || now.freed[dealer] != 0 || breath < -MOST_BREATH
            || breath > MOST_BREATH || breath == now.breath[dealer]) {
            return NO_VALUE;
        }
        acts.keep(now);
        int before = now.breath[dealer];
        now.breath[dealer] = breath;
        return before;
    }

    public int free(int dealer) {
        if (!told.has(dealer) || now.freed[dealer] != 0) {
            return NONE;
        }
        choir.tune(told, now);
        acts.keep(now);
        now.freed[dealer] = 1;
        return choir.sings[dealer];
    }

    public int hour() {
        if (now.hour >= LAST_HOUR && now.day >= LAST_DAY) {
            return NONE;
        }
        acts.keep(now);
        now.pass(told);
        return now.warmth(told);
    }

    public boolean undo() {
        return acts.takeBack(now);
    }

    public boolean redo() {
        return acts.doAgain(now);
    }

    // ---- What hours bring ----

    public int will(int dealer, int other, int n) {
        if (!areTwo(dealer, other) || !within(n, 0, HOURS_AHEAD)) {
            return NONE;
        }
        lookAhead(n);
        choir.tune(told, ahead);
        return choir.half(dealer, other);
    }

    public int low(int dealer, int other, int n) {
        return bestHour(dealer, other, n, 1);
    }

    public int high(int dealer, int other, int n) {
        return bestHour(dealer, other, n, -1);
    }

    public int plan(int dealer, int other, int loads, int hours) {
        lie.wipe();
        if (!areTwo(dealer, other) || !within(loads, 1, PLAN_LOADS)
            || !within(hours, 1, PLAN_HOURS) || loads > told.cart * hours) {
            return NONE;
        }
        hearPrices(dealer, other, hours);
        for (int i = 0; i < hours; i++) {
            lie.add(0);
        }
        int cost = 0;
        int left = loads;
        for (int turn = 0; turn < hours && left > 0; turn++) {
            int best = cheapestUnused(hours);
            int many = Math.min(left, told.cart);
            lie.values[best] = many;
            cost += many * row[best];
            left -= many;
        }
        return cost;
    }

    public int gain(int dealer) {
        lie.wipe();
        if (!told.has(dealer)) {
            return NO_GAIN;
        }
        choir.tune(told, now);
        int best = NO_GAIN;
        for (int one = 0; one < told.dealers; one++) {
            for (int other = 0; other < told.dealers; other++) {
                int gain = choir.half(dealer, other) - choir.half(dealer, one);
                if (canDeal(dealer, one, other) && gain > best) {
                    best = gain;
                    lie.wipe();
                    lie.add(one);
                    lie.add(other);
                }
            }
        }
        return best;
    }

    public int clear(int what) {
        lie.wipe();
        if (what != 0 && what != 1) {
            return NONE;
        }
        choir.tune(told, now);
        clearing.settle(told, now, choir);
        for (int i = 0; i < told.dealers; i++) {
            lie.add(clearing.best[i]);
        }
        return what == 0 ? clearing.mostSold : clearing.leastPaid;
    }

    public int spoils(int dealer) {
        if (!told.has(dealer) || now.freed[dealer] != 0) {
            return NO_SUM;
        }
        choir.tune(told, now);
        int before = choir.allPrices(HALF);
        ahead.copy(now);
        ahead.freed[dealer] = 1;
        choir.tune(told, ahead);
        return before - choir.allPrices(HALF);
    }

    public int starve(int n) {
        if (!within(n, 0, HOURS_AHEAD)) {
            return NONE;
        }
        lookAhead(n);
        int sum = 0;
        for (int i = 0; i < told.dealers; i++) {
            sum += ahead.hunger[i];
        }
        return sum;
    }

    public int hush(int chirps) {
        if (!within(chirps, 0, DEALERS * MOST_CHIRPS)) {
            return NONE;
        }
        ahead.copy(now);
        for (int n = 0; n <= HOURS_AHEAD; n++) {
            choir.tune(told, ahead);
            if (choir.together() <= chirps) {
                return n;
            }
            ahead.pass(told);
        }
        return NONE;
    }

    public int mean(int dealer, int other, int n, int part) {
        if (!areTwo(dealer, other) || !within(n, 0, 3) || !within(part, 0, 1)) {
            return NONE;
        }
        int sum = 0;
        for (int snaps = 0; snaps < 1 << n; snaps++) {
            sum += weight(n, snaps) * priceBehind(dealer, other, n, snaps);
        }
        return partOf(sum, n, part);
    }

    public int rest(int buyer, int seller, int loads) {
        lie.wipe();
        if (!areTwo(buyer, seller) || now.freed[buyer] != 0 || now.freed[seller] != 0
            || !within(loads, 1, MOST_LOADS)) {
            return NONE;
        }
        hearBreaths(buyer, seller, loads);
        int count = 0;
        for (int b = 0; b < REST_ROW; b++) {
            for (int s = 0; s < REST_ROW; s++) {
                if (buyerStays(b, s) && sellerStays(b, s)) {
                    if (count == 0) {
                        lie.add(b - REST_BREATH);
                        lie.add(s - REST_BREATH);
                    }
                    count++;
                }
            }
        }
        return count;
    }

    public int odds(int dealer, int other, int price, int n, int part) {
        if (!areTwo(dealer, other) || !within(n, 0, 4) || !within(part, 0, 1)) {
            return NONE;
        }
        int sum = 0;
        for (int snaps = 0; snaps < 1 << n; snaps++) {
            if (priceBehind(dealer, other, n, snaps) >= price) {
                sum += weight(n, snaps);
            }
        }
        return partOf(sum, n, part);
    }

    public int law(int rule) {
        if (!within(rule, GREATER, BOTH)) {
            return NO_SUM;
        }
        choir.tune(told, now);
        return choir.allPrices(rule) - choir.allPrices(HALF);
    }

    public int song(int song) {
        if (!within(song, 0, SONGS - 1)) {
            return NONE;
        }
        mating.breed(now.songsThere(told));
        return mating.fewest(song);
    }

    public int songs(int matings) {
        if (!within(matings, 0, 9)) {
            return NONE;
        }
        mating.breed(now.songsThere(told));
        return mating.allWithin(matings);
    }

    public int lies(int i) {
        return i >= 0 && i < lie.count ? lie.values[i] : NO_VALUE;
    }

    // ---- The stranger's cricket ----

    public int heard(int heat, int chirps, boolean is) {
        if (!within(heat, 0, MOST_HEAT) || !within(chirps, 0, MOST_CHIRPS)) {
            return NONE;
        }
        return ears.tell(heat, chirps, is);
    }

    public boolean untell(int heard) {
        return ears.takeBack(heard);
    }

    public int later(int by) {
        if (!within(by, 0, 1000) || ears.time + by > LAST_TIME) {
            return NONE;
        }
        ears.time += by;
        return ears.time;
    }

    public int fits(int k) {
        return ears.findFits(told, now, k);
    }

    public int sure(int k) {
        ears.findFits(told, now, k);
        return ears.onlySong();
    }

    public int ask(int chirps, int what, int k) {
        if (!within(chirps, 0, MOST_CHIRPS) || !within(what, 0, 1)
            || ears.findFits(told, now, k) == 0) {
            return NONE;
        }
        int best = 0;
        int fewest = ears.leftAtMost(told, 0, chirps);
        for (int heat = 1; heat <= MOST_HEAT; heat++) {
            int left = ears.leftAtMost(told, heat, chirps);
            if (left < fewest) {
                fewest = left;
                best = heat;
            }
        }
        return what == 0 ? best : fewest;
    }

    // ---- Images ----

    public int image(int box) {
        if (!within(box, 0, BOXES - 1)) {
            return NONE;
        }
        boxes.keep(box, now);
        return now.day;
    }

    public int back(int box) {
        if (!within(box, 0, BOXES - 1) || !boxes.giveBack(box, now)) {
            return NONE;
        }
        acts.forget();
        return now.day;
    }

    public int about(int what) {
        switch (what) {
            case 0: return told.dealers;
            case 1: return told.kinds;
            case 2: return told.cart;
            case 3: return now.hour;
            case 4: return now.day;
            case 5: return now.seed;
            case 6: return now.cold;
            case 7: return acts.done;
            case 8: return acts.undone;
            case 9: return ears.count;
            case 10: return ears.time;
            case 11: return reader.length;
            case 12: return told.chirps.units + told.heat.units;
            case 13: return lie.count;
            default: return NONE;
        }
    }

    // ---- Help for the calls above ----

    private static boolean within(int value, int least, int most) {
        return value >= least && value <= most;
    }

    private boolean areTwo(int dealer, int other) {
        return dealer != other && told.has(dealer) && told.has(other);
    }

    /** The choir is tuned to what is now. */
    private boolean canBuyOne(int dealer, int seller) {
        return seller != dealer && now.loads[seller] > 0
            && choir.half(dealer, seller) <= now.gold[dealer];
    }

    /** Buys of the one and sells to the other one; the choir is tuned to what is now. */
    private boolean canDeal(int dealer, int one, int other) {
        return other != dealer && other != one && canBuyOne(dealer, one)
            && choir.half(dealer, other) <= now.gold[other];
    }

    private void lookAhead(int hours) {
        ahead.copy(now);
        for (int i = 0; i < hours; i++) {
            ahead.pass(told);
        }
    }

    /** The first hour of those with the least (sign 1) or the greatest (sign -1) price. */
    private int bestHour(int dealer, int other, int n, int sign) {
        if (!areTwo(dealer, other) || !within(n, 0, HOURS_AHEAD)) {
            return NONE;
        }
        ahead.copy(now);
        int best = 0;
        int least = 0;
        for (int hours = 0; hours <= n; hours++) {
            choir.tune(told, ahead);
            int value = sign * choir.half(dealer, other);
            if (hours == 0 || value < least) {
                least = value;
                best = hours;
            }
            ahead.pass(told);
        }
        return best;
    }

    /** The prices of the coming hours, into the row. */
    private void hearPrices(int dealer, int other, int hours) {
        ahead.copy(now);
        for (int i = 0; i < hours; i++) {
            choir.tune(told, ahead);
            row[i] = choir.half(dealer, other);
            ahead.pass(told);
        }
    }

    /** The first of the cheapest hours at which the plan buys nothing yet. */
    private int cheapestUnused(int hours) {
        int best = NONE;
        for (int i = 0; i < hours; i++) {
            if (lie.values[i] == 0 && (best == NONE || row[i] < row[best])) {
                best = i;
            }
        }
        return Math.max(best, 0);
    }

    /** What the loads cost by each two breaths, into the row: the buyer's breath goes slower. */
    private void hearBreaths(int buyer, int seller, int loads) {
        ahead.copy(now);
        for (int b = 0; b < REST_ROW; b++) {
            for (int s = 0; s < REST_ROW; s++) {
                ahead.breath[buyer] = b - REST_BREATH;
                ahead.breath[seller] = s - REST_BREATH;
                choir.tune(told, ahead);
                row[b * REST_ROW + s] = loads * choir.half(buyer, seller);
            }
        }
    }

    private int buyerHas(int b, int s) {
        return -row[b * REST_ROW + s] - STEP_COST * Math.abs(b - REST_BREATH);
    }

    private int sellerHas(int b, int s) {
        return row[b * REST_ROW + s] - STEP_COST * Math.abs(s - REST_BREATH);
    }

    private boolean buyerStays(int b, int s) {
        for (int i = 0; i < REST_ROW; i++) {
            if (buyerHas(i, s) > buyerHas(b, s)) {
                return false;
            }
        }
        return true;
    }

    private boolean sellerStays(int b, int s) {
        for (int i = 0; i < REST_ROW; i++) {
            if (sellerHas(b, i) > sellerHas(b, s)) {
                return false;
            }
        }
        return true;
    }

    /** The price behind n hours, with a snap in each whose bit is set. */
    private int priceBehind(int dealer, int other, int n, int snaps) {
        ahead.copy(now);
        for (int i = 0; i < n; i++) {
            ahead.pass(told, (snaps >> i & 1) != 0);
        }
        choir.tune(told, ahead);
        return choir.half(dealer, other);
    }

    /** How many of 100 to the n ways bring just these snaps. */
    private int weight(int n, int snaps) {
        int ways = 1;
        for (int i = 0; i < n; i++) {
            ways *= (snaps >> i & 1) != 0 ? told.chance : 100 - told.chance;
        }
        return ways;
    }

    /** The upper (0) or lower (1) part, in lowest terms, of the sum by 100 to the n. */
    private static int partOf(int sum, int n, int part) {
        int whole = 1;
        for (int i = 0; i < n; i++) {
            whole *= 100;
        }
        int divisor = commonDivisor(whole, sum);
        if (divisor <= 0) {
            return NONE;
        }
        return part == 0 ? sum / divisor : whole / divisor;
    }

    private static int commonDivisor(int one, int other) {
        int a = one;
        int b = other;
        // Each two steps halve the greater one at least, so 100 do for every int.
        for (int i = 0; i < 100 && b != 0; i++) {
            int rest = a % b;
            a = b;
            b = rest;
        }
        return a;
    }

    /** An expression, kept so that a unit lays a number down and a sign takes what lies there. */
    private static final class Formula {
        // A unit stands behind seven nots at most, and takes part in one sign of two sides.
        private final int[] steps = new int[FORMULA_UNITS * 9];
        private final int[] numbers = new int[FORMULA_UNITS * 9];
        private final int[] stack = new int[FORMULA_UNITS];
        private int size = 0;
        int units = 0;

        void wipe() {
            size = 0;
            units = 0;
        }

        boolean isTold() {
            return size > 0;
        }

        void add(int step, int number) {
            if (size < steps.length) {
                steps[size] = step;
                numbers[size] = number;
                size++;
            }
        }

        int value(int heat, int song, int age, int mates, int hour, int day) {
            int top = 0;
            for (int i = 0; i < size; i++) {
                int step = steps[i];
                if (step == NOT) {
                    if (top >= 1) {
                        stack[top - 1] = stack[top - 1] == 0 ? 1 : 0;
                    }
                } else if (takesTwo(step)) {
                    if (top >= 2) {
                        top--;
                        stack[top - 1] = join(step, stack[top - 1], stack[top]);
                    }
                } else if (top < stack.length) {
                    switch (step) {
                        case HEAT: stack[top] = heat; break;
                        case SONG: stack[top] = song; break;
                        case AGE: stack[top] = age; break;
                        case MATES: stack[top] = mates; break;
                        case HOUR: stack[top] = hour; break;
                        case DAY: stack[top] = day; break;
                        default: stack[top] = numbers[i]; break;
                    }
                    top++;
                }
            }
            return top > 0 ? stack[0] : 0;
        }

        private static boolean takesTwo(int step) {
            return step > BAD && step < KIND || step == OR || step == AND;
        }

        private static int join(int step, int a, int b) {
            switch (step) {
                case '+': return a + b;
                case '-': return a - b;
                case '*': return a * b;
                case '/': return b == 0 ? 0 : a / b;
                case '%': return b == 0 ? 0 : a % b;
                case '<': return a < b ? 1 : 0;
                case '>': return a > b ? 1 : 0;
                case '=': return a == b ? 1 : 0;
                case AND: return a != 0 && b != 0 ? 1 : 0;
                default: return a != 0 || b != 0 ? 1 : 0;
            }
        }
    }

    /** What a text has told. */
    private static final class Market {
        final long[] kindNames = new long[KINDS];
        final long[] names = new long[DEALERS];
        final int[] kind = new int[DEALERS];
        final int[] song = new int[DEALERS];
        final int[] age = new int[DEALERS];
        final int[] gold = new int[DEALERS];
        final int[] loads = new int[DEALERS];
        final int[] needs = new int[DEALERS];
        final Formula chirps = new Formula();
        final Formula heat = new Formula();
        int kinds;
        int dealers;
        int chance;
        int snap;
        int cart;
        int draw;

        Market() {
            reset();
        }

        private void reset() {
            kinds = 0;
            dealers = 0;
            chirps.wipe();
            heat.wipe();
            chance = 0;
            snap = 1;
            cart = 3;
            draw = 0;
        }

        boolean has(int dealer) {
            return dealer >= 0 && dealer < dealers;
        }

        int warmth(int hour, int day, int cold) {
            int value = heat.isTold() ? heat.value(0, 0, 0, 0, hour, day) : 20;
            return clampHeat(value - cold);
        }

        static int clampHeat(int value) {
            return Math.max(0, Math.min(MOST_HEAT, value));
        }

        int sung(int heat, int song, int age, int mates, int hour, int day) {
            int value = chirps.isTold()
                ? chirps.value(heat, song, age, mates, hour, day) : heat + song;
            return Math.max(0, Math.min(MOST_CHIRPS, value));
        }
    }

    /** The tape, read token by token into a market; the first fault stops it. */
    private static final class Reader {
        private final int[] bytes = new int[TAPE_BYTES];
        private Market market;
        private Formula formula;
        private int at;
        private int token;
        private int place;
        private int number;
        private long name;
        private int seen;
        int length = 0;
        int fault = 0;
        int faultPlace = NONE;

        void put(int four) {
            for (int shift = 24; shift >= 0; shift -= 8) {
                if (length < bytes.length) {
                    bytes[length] = four >>> shift & 255;
                    length++;
                }
            }
        }

        boolean read(Market into) {
            market = into;
            market.reset();
            at = 0;
            seen = 0;
            fault = 0;
            faultPlace = NONE;
            next();
            // A line takes a byte at least.
            for (int i = 0; i <= TAPE_BYTES && fault == 0 && token != END; i++) {
                readLine();
            }
            return fault == 0;
        }

        /** BAD stands nowhere, so all that goes on reading stops at it. */
        private void fail(int number) {
            if (fault == 0) {
                fault = number;
                faultPlace = place;
            }
            token = BAD;
        }

        // ---- Tokens ----

        private void next() {
            if (fault != 0) {
                return;
            }
            while (at < length && isBlank(bytes[at])) {
                at++;
            }
            place = at;
            if (at >= length) {
                token = END;
                return;
            }
            int first = bytes[at];
            if (isLetter(first)) {
                readWord();
            } else if (isDigit(first)) {
                readNumber();
            } else if (isSign(first)) {
                token = first;
                at++;
            } else {
                fail(NO_TOKEN);
            }
        }

        private void readWord() {
            name = 0;
            while (at < length && isLetter(bytes[at])) {
                name = name << 5 | bytes[at] - 'a' + 1;
                at++;
            }
            if (at - place > WORD_SIGNS) {
                fail(NO_TOKEN);
                return;
            }
            token = NAME;
            for (int i = 0; i + WORD_SIGNS <= WORDS.length() && token == NAME; i += WORD_SIGNS) {
                int same = 0;
                while (same < WORD_SIGNS
                    && WORDS.charAt(i + same) == (place + same < at ? bytes[place + same] : ' ')) {
                    same++;
                }
                if (same == WORD_SIGNS) {
                    token = KIND + i / WORD_SIGNS;
                }
            }
        }

        private void readNumber() {
            number = 0;
            while (at < length && isDigit(bytes[at])) {
                number = number * 10 + bytes[at] - '0';
                at++;
            }
            if (at - place > NUMBER_SIGNS || at < length && isLetter(bytes[at])) {
                fail(NO_TOKEN);
                return;
            }
            token = NUMBER;
        }

        private static boolean isBlank(int sign) {
            return sign == 32 || sign == 10;
        }

        private static boolean isLetter(int sign) {
            return sign >= 'a' && sign <= 'z';
        }

        private static boolean isDigit(int sign) {
            return sign >= '0' && sign <= '9';
        }

        private static boolean isSign(int sign) {
            switch (sign) {
                case ';': case '(': case ')': case '<': case '>': case '=':
                case '+': case '-': case '*': case '/': case '%':
                    return true;
                default:
                    return false;
            }
        }

        private boolean take(int wanted) {
            if (token != wanted) {
                return false;
            }
            next();
            return true;
        }

        private void need(int wanted) {
            if (token == wanted) {
                next();
            } else {
                fail(MISPLACED);
            }
        }

        private int needNumber(int least, int most) {
            if (token != NUMBER) {
                fail(MISPLACED);
                return 0;
            }
            int value = number;
            if (value < least || value > most) {
                fail(BAD_NUMBER);
                return 0;
            }
            next();
            return value;
        }

        // ---- Lines ----

        private void readLine() {
            int sort = token;
            if (!mayStand(sort)) {
                fail(MISPLACED);
                return;
            }
            next();
            switch (sort) {
                case KIND: readKind(); break;
                case DEALER: readDealer(); break;
                case CHIRPS: formula = market.chirps; readEither(0); break;
                case HEAT: formula = market.heat; readEither(0); break;
                case SNAP: readSnap(); break;
                case CART: market.cart = needNumber(1, MOST_LOADS); break;
                default: market.draw = needNumber(0, 999); break;
            }
            need(';');
        }

        /** Whether one more line of the sort may come. */
        private boolean mayStand(int sort) {
            switch (sort) {
                case KIND: return market.kinds < KINDS;
                case DEALER: return market.dealers < DEALERS;
                case CHIRPS: case HEAT: case SNAP: case CART: case DRAW: return isFirst(sort);
                default: return false;
            }
        }

        private boolean isFirst(int sort) {
            int mark = 1 << sort - KIND;
            boolean first = (seen & mark) == 0;
            seen |= mark;
            return first;
        }

        private void readKind() {
            if (isNewName(market.kindNames, market.kinds)) {
                market.kindNames[market.kinds] = name;
                market.kinds++;
                next();
            }
        }

        private void readDealer() {
            int dealer = market.dealers;
            if (!isNewName(market.names, dealer)) {
                return;
            }
            market.names[dealer] = name;
            market.dealers++;
            next();
            need(OF);
            market.kind[dealer] = needKind();
            need(SONG);
            market.song[dealer] = needNumber(0, SONGS - 1);
            market.age[dealer] = take(AGE) ? needNumber(0, MOST_AGE) : 0;
            market.gold[dealer] = take(GOLD) ? needNumber(0, 9999) : 0;
            market.loads[dealer] = take(LOADS) ? needNumber(0, 99) : 0;
            market.needs[dealer] = take(NEEDS) ? needNumber(0, 9) : 0;
        }

        private boolean isNewName(long[] names, int count) {
            if (token != NAME || count >= names.length) {
                fail(MISPLACED);
                return false;
            }
            for (int i = 0; i < count; i++) {
                if (names[i] == name) {
                    fail(TOLD_ALREADY);
                    return false;
                }
            }
            return true;
        }

        private int needKind() {
            if (token != NAME) {
                fail(MISPLACED);
                return 0;
            }
            for (int i = 0; i < market.kinds; i++) {
                if (market.kindNames[i] == name) {
                    next();
                    return i;
                }
            }
            fail(NO_KIND);
            return 0;
        }

        private void readSnap() {
            market.chance = needNumber(0, 100);
            need(OF);
            market.snap = needNumber(1, 20);
        }

        // ---- Formulas: depth is how many units ( e ) and nots are around ----

        private void readEither(int depth) {
            readBoth(depth);
            for (int i = 0; i < FORMULA_UNITS && take(OR); i++) {
                readBoth(depth);
                formula.add(OR, 0);
            }
        }

        private void readBoth(int depth) {
            readOne(depth);
            for (int i = 0; i < FORMULA_UNITS && take(AND); i++) {
                readOne(depth);
                formula.add(AND, 0);
            }
        }

        private void readOne(int depth) {
            if (token == NOT) {
                if (depth > NESTING) {
                    fail(MISPLACED);
                    return;
                }
                next();
                readOne(depth + 1);
                formula.add(NOT, 0);
                return;
            }
            readSum(depth);
            int sign = token;
            if (sign == '<' || sign == '>' || sign == '=') {
                next();
                readSum(depth);
                formula.add(sign, 0);
            }
        }

        private void readSum(int depth) {
            readTerm(depth);
            for (int i = 0; i < FORMULA_UNITS && (token == '+' || token == '-'); i++) {
                int sign = token;
                next();
                readTerm(depth);
                formula.add(sign, 0);
            }
        }

        private void readTerm(int depth) {
            readUnit(depth);
            for (int i = 0; i < FORMULA_UNITS
                && (token == '*' || token == '/' || token == '%'); i++) {
                int sign = token;
                next();
                readUnit(depth);
                formula.add(sign, 0);
            }
        }

        /** 30 units in each of the two formulas are the 60 in all, so these need no count. */
        private void readUnit(int depth) {
            if (formula.units >= FORMULA_UNITS) {
                fail(MISPLACED);
                return;
            }
            formula.units++;
            switch (token) {
                case NUMBER: case HEAT: case SONG: case AGE: case MATES: case HOUR: case DAY:
                    formula.add(token, number);
                    next();
                    break;
                case '(':
                    readInner(depth);
                    break;
                default:
                    fail(MISPLACED);
                    break;
            }
        }

        private void readInner(int depth) {
            if (depth > NESTING) {
                fail(MISPLACED);
                return;
            }
            next();
            readEither(depth + 1);
            need(')');
        }
    }

    /** What changes by acts and hours. */
    private static final class Yard {
        final int[] gold = new int[DEALERS];
        final int[] loads = new int[DEALERS];
        final int[] hunger = new int[DEALERS];
        final int[] age = new int[DEALERS];
        final int[] breath = new int[DEALERS];
        final int[] freed = new int[DEALERS];
        int cold = 0;
        int hour = 0;
        int day = 0;
        int seed = 0;

        void open(Market market) {
            for (int i = 0; i < DEALERS; i++) {
                gold[i] = market.gold[i];
                loads[i] = market.loads[i];
                hunger[i] = 0;
                age[i] = market.age[i];
                breath[i] = 0;
                freed[i] = 0;
            }
            cold = 0;
            hour = 0;
            day = 0;
            seed = market.draw;
        }

        void copy(Yard from) {
            System.arraycopy(from.gold, 0, gold, 0, DEALERS);
            System.arraycopy(from.loads, 0, loads, 0, DEALERS);
            System.arraycopy(from.hunger, 0, hunger, 0, DEALERS);
            System.arraycopy(from.age, 0, age, 0, DEALERS);
            System.arraycopy(from.breath, 0, breath, 0, DEALERS);
            System.arraycopy(from.freed, 0, freed, 0, DEALERS);
            cold = from.cold;
            hour = from.hour;
            day = from.day;
            seed = from.seed;
        }

        int warmth(Market market) {
            return market.warmth(hour, day, cold);
        }

        int mates(Market market, int dealer) {
            int count = 0;
            for (int i = 0; i < market.dealers; i++) {
                if (i != dealer && freed[i] == 0 && market.kind[i] == market.kind[dealer]) {
                    count++;
                }
            }
            return count;
        }

        /** The songs of those that are there, as bits. */
        int songsThere(Market market) {
            int bits = 0;
            for (int i = 0; i < market.dealers; i++) {
                if (freed[i] == 0) {
                    bits |= 1 << market.song[i];
                }
            }
            return bits;
        }

        /** An hour, with a snap as the seed tells. */
        void pass(Market market) {
            seed = (seed * 137 + 71) % 1000;
            pass(market, seed % 100 < market.chance);
        }

        void pass(Market market, boolean snap) {
            cold = Math.max(0, cold - 1);
            if (snap) {
                cold = Math.min(MOST_COLD, cold + market.snap);
            }
            Arrays.fill(breath, 0);
            hour++;
            if (hour > LAST_HOUR) {
                hour = 0;
                day++;
                eat(market);
            }
        }

        private void eat(Market market) {
            for (int i = 0; i < market.dealers; i++) {
                int eaten = Math.min(loads[i], market.needs[i]);
                loads[i] -= eaten;
                hunger[i] += market.needs[i] - eaten;
                age[i] = Math.min(MOST_AGE, age[i] + 1);
            }
        }
    }

    /** What each cricket sings at one time. */
    private static final class Choir {
        final int[] sings = new int[DEALERS];
        private int dealers = 0;

        void tune(Market market, Yard yard) {
            dealers = market.dealers;
            int heat = yard.warmth(market);
            for (int i = 0; i < dealers; i++) {
                sings[i] = yard.freed[i] != 0 ? 0
                    : market.sung(Market.clampHeat(heat + yard.breath[i]), market.song[i],
                        yard.age[i], yard.mates(market, i), yard.hour, yard.day);
            }
        }

        int half(int one, int other) {
            return (sings[one] + sings[other]) / 2;
        }

        int together() {
            int sum = 0;
            for (int i = 0; i < dealers; i++) {
                sum += sings[i];
            }
            return sum;
        }

        /** All prices together, each two once, by a law. */
        int allPrices(int rule) {
            int sum = 0;
            for (int i = 0; i < dealers; i++) {
                for (int j = i + 1; j < dealers; j++) {
                    sum += byLaw(rule, i, j);
                }
            }
            return sum;
        }

        private int byLaw(int rule, int one, int other) {
            switch (rule) {
                case GREATER: return Math.max(sings[one], sings[other]);
                case LESSER: return Math.min(sings[one], sings[other]);
                case BOTH: return sings[one] + sings[other];
                default: return half(one, other);
            }
        }
    }

    /** Acts that can be undone or redone, as the yards between them. */
    private static final class Acts {
        // Of those below done, each is as it was ahead of an act; the next are behind undone ones.
        private final Yard[] yards = new Yard[ACTS + 1];
        int done = 0;
        int undone = 0;

        Acts() {
            for (int i = 0; i < yards.length; i++) {
                yards[i] = new Yard();
            }
        }

        void forget() {
            done = 0;
            undone = 0;
        }

        /** To be called ahead of an act. */
        void keep(Yard now) {
            if (done >= ACTS) {
                dropOldest();
            }
            yards[done].copy(now);
            done++;
            undone = 0;
        }

        private void dropOldest() {
            Yard oldest = yards[0];
            for (int i = 1; i < yards.length; i++) {
                yards[i - 1] = yards[i];
            }
            yards[yards.length - 1] = oldest;
            done--;
        }

        boolean takeBack(Yard now) {
            if (done <= 0) {
                return false;
            }
            yards[done].copy(now);
            done--;
            undone++;
            now.copy(yards[done]);
            return true;
        }

        boolean doAgain(Yard now) {
            if (undone <= 0) {
                return false;
            }
            done++;
            undone--;
            now.copy(yards[done]);
            return true;
        }
    }

    /** Images of yards. */
    private static final class Boxes {
        private final Yard[] yards = new Yard[BOXES];
        private final boolean[] full = new boolean[BOXES];

        Boxes() {
            for (int i = 0; i < BOXES; i++) {
                yards[i] = new Yard();
            }
        }

        void empty() {
            for (int i = 0; i < BOXES; i++) {
                full[i] = false;
            }
        }

        void keep(int box, Yard now) {
            yards[box].copy(now);
            full[box] = true;
        }

        boolean giveBack(int box, Yard now) {
            if (full[box]) {
                now.copy(yards[box]);
            }
            return full[box];
        }
    }

    /** What was heard of a stranger's cricket, and which songs and ages it leaves. */
    private static final class Ears {
        private static final int UNKNOWN = -1;

        private final int[] heats = new int[HEARINGS];
        private final int[] chirps = new int[HEARINGS];
        private final boolean[] had = new boolean[HEARINGS];
        private final int[] told = new int[HEARINGS];
        private final int[] untold = new int[HEARINGS];
        private final boolean[] fitting = new boolean[SONGS * AGES];
        // What each heat, song and age sings at the hour and day, once it was asked for.
        private final int[] sung = new int[(MOST_HEAT + 1) * SONGS * AGES];
        private int sungHour = NONE;
        private int sungDay = NONE;
        private int fits = 0;
        int count = 0;
        int time = 0;

        /** For a new market; the time stays. */
        void forget() {
            count = 0;
            sungHour = NONE;
        }

        int tell(int heat, int many, boolean is) {
            if (count >= HEARINGS) {
                return NONE;
            }
            heats[count] = heat;
            chirps[count] = many;
            had[count] = is;
            told[count] = time;
            untold[count] = NONE;
            count++;
            return count - 1;
        }

        boolean takeBack(int hearing) {
            if (hearing < 0 || hearing >= count || untold[hearing] != NONE) {
                return false;
            }
            untold[hearing] = time;
            return true;
        }

        private boolean counts(int hearing, int k) {
            return told[hearing] <= k && (untold[hearing] == NONE || untold[hearing] > k);
        }

        /** How many songs with ages fit by what is known at k. */
        int findFits(Market market, Yard yard, int k) {
            if (sungHour != yard.hour || sungDay != yard.day) {
                sungHour = yard.hour;
                sungDay = yard.day;
                Arrays.fill(sung, UNKNOWN);
            }
            fits = 0;
            for (int i = 0; i < fitting.length; i++) {
                fitting[i] = isFit(market, i, k);
                if (fitting[i]) {
                    fits++;
                }
            }
            return fits;
        }

        private boolean isFit(Market market, int cricket, int k) {
            for (int i = 0; i < count; i++) {
                if (counts(i, k)
                    && (sings(market, heats[i], cricket) >= chirps[i]) != had[i]) {
                    return false;
                }
            }
            return true;
        }

        /** A cricket is told by its song and age together, as 10 songs + age. */
        private int sings(Market market, int heat, int cricket) {
            int at = heat * SONGS * AGES + cricket;
            if (sung[at] == UNKNOWN) {
                sung[at] = market.sung(heat, cricket / AGES, cricket % AGES, 0, sungHour, sungDay);
            }
            return sung[at];
        }

        int onlySong() {
            int song = NONE;
            for (int i = 0; i < fitting.length; i++) {
                if (fitting[i]) {
                    if (song != NONE && song != i / AGES) {
                        return SEVERAL;
                    }
                    song = i / AGES;
                }
            }
            return song;
        }

        /** How many of those that fit are left at the most, once the heat is heard. */
        int leftAtMost(Market market, int heat, int many) {
            int have = 0;
            for (int i = 0; i < fitting.length; i++) {
                if (fitting[i] && sings(market, heat, i) >= many) {
                    have++;
                }
            }
            return Math.max(have, fits - have);
        }
    }

    /** Sets of songs, as bits, that matings lead to. */
    private static final class Mating {
        private static final int ALL = (1 << SONGS) - 1;

        private final int[] reached = new int[ALL + 1];
        private int first = 0;

        /** Each mating that counts adds one song, so a set never comes behind a greater one. */
        void breed(int songs) {
            first = songs & ALL;
            Arrays.fill(reached, 0);
            reached[first] = 1;
            for (int set = first; set <= ALL; set++) {
                if (reached[set] != 0) {
                    int children = sums(set);
                    for (int i = 0; i < SONGS; i++) {
                        if ((children >> i & 1) != 0) {
                            reached[set | 1 << i] = 1;
                        }
                    }
                }
            }
        }

        private static int sums(int set) {
            int bits = 0;
            for (int i = 0; i < SONGS; i++) {
                if ((set >> i & 1) != 0) {
                    bits |= (set << i | set >> SONGS - i) & ALL;
                }
            }
            return bits;
        }

        private int matings(int set) {
            return Integer.bitCount(set) - Integer.bitCount(first);
        }

        int fewest(int song) {
            int best = NONE;
            for (int set = first; set <= ALL; set++) {
                if (reached[set] != 0 && (set >> song & 1) != 0
                    && (best == NONE || matings(set) < best)) {
                    best = matings(set);
                }
            }
            return best;
        }

        int allWithin(int most) {
            int bits = 0;
            for (int set = first; set <= ALL; set++) {
                if (reached[set] != 0 && matings(set) <= most) {
                    bits |= set;
                }
            }
            return bits;
        }
    }

    /** Who of those in need buys of whom. */
    private static final class Clearing {
        private final int[] over = new int[DEALERS];
        private final int[] from = new int[DEALERS];
        final int[] best = new int[DEALERS];
        private Market market;
        private Yard yard;
        private Choir choir;
        int mostSold = 0;
        int leastPaid = 0;

        void settle(Market told, Yard now, Choir tuned) {
            market = told;
            yard = now;
            choir = tuned;
            mostSold = NONE;
            leastPaid = 0;
            for (int i = 0; i < market.dealers; i++) {
                over[i] = yard.loads[i] - market.needs[i];
            }
            choose(0, 0, 0);
        }

        /** All ways from this dealer on come in their order, so that of like ones the first stays. */
        private void choose(int dealer, int sold, int paid) {
            if (dealer >= market.dealers) {
                compare(sold, paid);
                return;
            }
            from[dealer] = NONE;
            choose(dealer + 1, sold, paid);
            if (yard.loads[dealer] >= market.needs[dealer]) {
                return;
            }
            for (int seller = 0; seller < market.dealers; seller++) {
                int price = choir.half(dealer, seller);
                if (over[seller] > 0 && price <= yard.gold[dealer]) {
                    over[seller]--;
                    from[dealer] = seller;
                    choose(dealer + 1, sold + 1, paid + price);
                    over[seller]++;
                }
            }
        }

        private void compare(int sold, int paid) {
            if (sold > mostSold || sold == mostSold && paid < leastPaid) {
                mostSold = sold;
                leastPaid = paid;
                System.arraycopy(from, 0, best, 0, DEALERS);
            }
        }
    }

    /** The numbers that the latest answer left lying there. */
    private static final class Lie {
        final int[] values = new int[PLAN_HOURS];
        int count = 0;

        void wipe() {
            count = 0;
        }

        void add(int value) {
            if (count < values.length) {
                values[count] = value;
                count++;
            }
        }
    }
}
