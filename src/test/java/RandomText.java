import java.util.Random;

/** Texts of markets, good ones mostly; what is drawn depends on the given numbers alone. */
final class RandomText {
    private static final String[] UNITS = {"heat", "song", "age", "mates", "hour", "day"};
    private static final String[] TOKENS = {"kind", "dealer", "of", "song", "age", "gold", "loads",
        "needs", "chirps", "heat", "snap", "cart", "draw", "or", "and", "not", "mates", "hour",
        "day", "a", "bc", "zzzzzzzz", "zzzzzzzzz", "0", "7", "10", "99", "100", "999", "1000",
        "9999", "12345", "5a", ";", "(", ")", "<", ">", "=", "+", "-", "*", "/", "%", "$", "\t",
        "\n", "A", "\u00e9", "\0"};

    private final Random random;
    private int units = 0;

    RandomText(Random random) {
        this.random = random;
    }

    String good() {
        StringBuilder text = new StringBuilder();
        int kinds = 1 + random.nextInt(3);
        for (int i = 0; i < kinds; i++) {
            text.append("kind ").append("kinds".charAt(i)).append(';');
        }
        int dealers = random.nextInt(8) == 0 ? random.nextInt(2) : 2 + random.nextInt(5);
        for (int i = 0; i < dealers; i++) {
            text.append(blank()).append("dealer ").append((char) ('a' + i)).append(" of ")
                .append("kinds".charAt(random.nextInt(kinds))).append(" song ")
                .append(random.nextInt(10));
            option(text, " age ", 100);
            option(text, " gold ", random.nextInt(4) == 0 ? 10000 : 200);
            option(text, " loads ", random.nextInt(4) == 0 ? 100 : 15);
            option(text, " needs ", 10);
            text.append(';');
        }
        option(text, "cart ", 1, 9);
        option(text, "draw ", 0, 999);
        if (random.nextInt(3) != 0) {
            text.append("snap ").append(random.nextInt(101)).append(" of ")
                .append(1 + random.nextInt(20)).append(';');
        }
        formula(text, "heat ");
        formula(text, "chirps ");
        return text.toString();
    }

    private String blank() {
        return random.nextInt(3) == 0 ? random.nextBoolean() ? " " : "\n " : "";
    }

    private void option(StringBuilder text, String word, int below) {
        if (random.nextInt(3) != 0) {
            text.append(word).append(random.nextInt(below));
        }
    }

    private void option(StringBuilder text, String word, int least, int most) {
        if (random.nextInt(3) != 0) {
            text.append(word).append(least + random.nextInt(most - least + 1)).append(';');
        }
    }

    private void formula(StringBuilder text, String word) {
        if (random.nextInt(4) == 0) {
            return;
        }
        String usual = word.equals("heat ")
            ? 5 + random.nextInt(30) + "+hour%" + random.nextInt(9)
            : "heat/" + (1 + random.nextInt(3)) + "+song*" + random.nextInt(4) + "+mates";
        units = 0;
        String e = random.nextInt(3) == 0 ? usual : either(random.nextInt(4));
        if (random.nextBoolean() && units < 20) {
            e = usual + "+(" + e + ")";
        }
        text.append(word).append(e).append(';');
    }

    private String either(int depth) {
        String e = both(depth);
        return random.nextInt(4) == 0 && units < 15 ? e + " or " + both(depth) : e;
    }

    private String both(int depth) {
        String e = one(depth);
        return random.nextInt(4) == 0 && units < 15 ? e + " and " + one(depth) : e;
    }

    private String one(int depth) {
        if (random.nextInt(8) == 0) {
            return "not " + one(depth);
        }
        String e = sum(depth);
        return random.nextInt(4) == 0 && units < 15 ? e + "<>=".charAt(random.nextInt(3))
            + sum(depth) : e;
    }

    private String sum(int depth) {
        String e = term(depth);
        return random.nextInt(2) == 0 && units < 15 ? e + "+-".charAt(random.nextInt(2))
            + term(depth) : e;
    }

    private String term(int depth) {
        String e = unit(depth);
        return random.nextInt(3) == 0 && units < 15 ? e + "*/%".charAt(random.nextInt(3))
            + unit(depth) : e;
    }

    private String unit(int depth) {
        units++;
        if (depth > 0 && random.nextInt(3) == 0) {
            return "(" + either(depth - 1) + ")";
        }
        if (random.nextInt(3) == 0) {
            return String.valueOf(random.nextInt(10) == 0 ? random.nextInt(10000)
                : random.nextInt(40));
        }
        return UNITS[random.nextInt(UNITS.length)];
    }

    /** A good text with a token put in, left out, doubled or changed; now and then only tokens. */
    String spoilt() {
        if (random.nextInt(6) == 0) {
            StringBuilder text = new StringBuilder();
            for (int i = random.nextInt(12); i > 0; i--) {
                text.append(TOKENS[random.nextInt(TOKENS.length)]).append(blank());
            }
            return text.toString();
        }
        StringBuilder text = new StringBuilder(good());
        for (int i = random.nextInt(2); i >= 0 && text.length() > 1; i--) {
            int at = random.nextInt(text.length());
            switch (random.nextInt(4)) {
                case 0: text.deleteCharAt(at); break;
                case 1: text.setLength(at); break;
                case 2: text.insert(at, text.charAt(random.nextInt(text.length()))); break;
                default: text.insert(at, TOKENS[random.nextInt(TOKENS.length)]); break;
            }
        }
        return text.toString();
    }
}
