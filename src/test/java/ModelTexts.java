import java.util.ArrayList;
import java.util.HashSet;
import java.util.List;
import java.util.Set;
import java.util.regex.Matcher;
import java.util.regex.Pattern;

/** A market's text read once more, in another way: by patterns, trees and exceptions. */
final class ModelTexts {
    /** What a formula is worth by heat, song, age, mates, hour, day. */
    interface Tree {
        int worth(int[] given);
    }

    static final class Fault extends RuntimeException {
        private static final long serialVersionUID = 1L;
        final int fault;
        final int place;

        Fault(int fault, int place) {
            super("fault " + fault + " at " + place);
            this.fault = fault;
            this.place = place;
        }
    }

    private record Token(String text, int place, boolean good) {
    }

    private static final Set<String> OWN = Set.of("kind", "dealer", "of", "song", "age", "gold",
        "loads", "needs", "chirps", "heat", "snap", "cart", "draw", "or", "and", "not", "mates",
        "hour", "day");
    private static final List<String> GIVEN = List.of("heat", "song", "age", "mates", "hour", "day");
    private static final Pattern PIECE = Pattern.compile("[ \n]+|[a-z]+|[0-9]+[a-z]?|[;()<>=+*/%-]|.",
        Pattern.DOTALL);
    private static final Pattern GOOD = Pattern.compile("[a-z]{1,8}|[0-9]{1,4}|[;()<>=+*/%-]");

    final List<String> kinds = new ArrayList<>();
    final List<String> names = new ArrayList<>();
    /** Of each dealer: kind, song, age, gold, loads, needs. */
    final List<int[]> dealers = new ArrayList<>();
    Tree chirps;
    Tree heat;
    int chance = 0;
    int snap = 1;
    int cart = 3;
    int draw = 0;
    int units = 0;

    private final List<Token> tokens = new ArrayList<>();
    private final Set<String> once = new HashSet<>();
    private int at = 0;
    private int unitsOfOne = 0;

    ModelTexts(String text) {
        Matcher pieces = PIECE.matcher(text);
        while (pieces.find()) {
            String piece = pieces.group();
            if (!piece.isBlank() || !piece.matches("[ \n]+")) {
                tokens.add(new Token(piece, pieces.start(), GOOD.matcher(piece).matches()));
            }
        }
        tokens.add(new Token("", text.length(), true));
        while (!peek().isEmpty()) {
            line();
        }
    }

    /** The token that comes; one that is none is told as soon as it is looked at. */
    private String peek() {
        Token token = tokens.get(at);
        if (!token.good) {
            throw new Fault(1, token.place);
        }
        return token.text;
    }

    private Fault wrong(int fault) {
        return new Fault(fault, tokens.get(at).place);
    }

    private String want(boolean can) {
        String text = peek();
        if (!can) {
            throw wrong(2);
        }
        at++;
        return text;
    }

    private void word(String text) {
        want(peek().equals(text));
    }

    private String name() {
        String text = peek();
        if (!text.matches("[a-z]+") || OWN.contains(text)) {
            throw wrong(2);
        }
        return text;
    }

    private int number(int least, int most) {
        String text = peek();
        if (!text.matches("[0-9]+")) {
            throw wrong(2);
        }
        int value = Integer.parseInt(text);
        if (value < least || value > most) {
            throw wrong(4);
        }
        at++;
        return value;
    }

    private void line() {
        String sort = peek();
        switch (sort) {
            case "kind" -> want(kinds.size() < 3);
            case "dealer" -> want(dealers.size() < 6);
            case "chirps", "heat", "snap", "cart", "draw" -> want(once.add(sort));
            default -> want(false);
        }
        switch (sort) {
            case "kind" -> newName(kinds);
            case "dealer" -> dealer();
            case "chirps" -> chirps = formula();
            case "heat" -> heat = formula();
            case "snap" -> {
                chance = number(0, 100);
                word("of");
                snap = number(1, 20);
            }
            case "cart" -> cart = number(1, 9);
            default -> draw = number(0, 999);
        }
        word(";");
    }

    private void newName(List<String> told) {
        String name = name();
        if (told.contains(name)) {
            throw wrong(3);
        }
        told.add(name);
        at++;
    }

    private void dealer() {
        newName(names);
        word("of");
        int kind = kinds.indexOf(name());
        if (kind < 0) {
            throw wrong(5);
        }
        at++;
        word("song");
        int[] has = {kind, number(0, 9), 0, 0, 0, 0};
        String[] options = {"age", "gold", "loads", "needs"};
        int[] most = {99, 9999, 99, 9};
        for (int i = 0; i < options.length; i++) {
            if (peek().equals(options[i])) {
                at++;
                has[2 + i] = number(0, most[i]);
            }
        }
        dealers.add(has);
    }

    private Tree formula() {
        unitsOfOne = 0;
        return either(0);
    }

    private Tree either(int around) {
        Tree all = both(around);
        while (peek().equals("or")) {
            at++;
            Tree left = all;
            Tree right = both(around);
            all = g -> left.worth(g) != 0 | right.worth(g) != 0 ? 1 : 0;
        }
        return all;
    }

    private Tree both(int around) {
        Tree all = one(around);
        while (peek().equals("and")) {
            at++;
            Tree left = all;
            Tree right = one(around);
            all = g -> left.worth(g) != 0 & right.worth(g) != 0 ? 1 : 0;
        }
        return all;
    }

    private Tree one(int around) {
        if (peek().equals("not")) {
            want(around < 7);
            Tree inner = one(around + 1);
            return g -> inner.worth(g) == 0 ? 1 : 0;
        }
        Tree left = sum(around);
        String sign = peek();
        if (!sign.matches("[<>=]")) {
            return left;
        }
        at++;
        Tree right = sum(around);
        return switch (sign) {
            case "<" -> g -> left.worth(g) < right.worth(g) ? 1 : 0;
            case ">" -> g -> left.worth(g) > right.worth(g) ? 1 : 0;
            default -> g -> left.worth(g) == right.worth(g) ? 1 : 0;
        };
    }

    private Tree sum(int around) {
        Tree all = term(around);
        while (peek().matches("[+-]")) {
            String sign = want(true);
            Tree left = all;
            Tree right = term(around);
            all = sign.equals("+") ? g -> left.worth(g) + right.worth(g)
                : g -> left.worth(g) - right.worth(g);
        }
        return all;
    }

    private Tree term(int around) {
        Tree all = unit(around);
        while (peek().matches("[*/%]")) {
            String sign = want(true);
            Tree left = all;
            Tree right = unit(around);
            all = switch (sign) {
                case "*" -> g -> left.worth(g) * right.worth(g);
                case "/" -> g -> cut(left.worth(g), right.worth(g), true);
                default -> g -> cut(left.worth(g), right.worth(g), false);
            };
        }
        return all;
    }

    private static int cut(int a, int b, boolean whole) {
        if (b == 0) {
            return 0;
        }
        long quotient = (long) a / b;
        return whole ? (int) quotient : (int) (a - quotient * b);
    }

    private Tree unit(int around) {
        String text = peek();
        if (unitsOfOne == 30 || units == 60) {
            throw wrong(2);
        }
        unitsOfOne++;
        units++;
        if (text.equals("(")) {
            want(around < 7);
            Tree inner = either(around + 1);
            word(")");
            return inner;
        }
        want(text.matches("[0-9]+") || GIVEN.contains(text));
        int which = GIVEN.indexOf(text);
        int value = which < 0 ? Integer.parseInt(text) : 0;
        return g -> which < 0 ? value : g[which];
    }
}
