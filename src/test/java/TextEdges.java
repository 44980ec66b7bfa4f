import java.util.function.Supplier;

/** Edges of the tape and of a market's text: the terms' first part, promises 1 to 5. */
final class TextEdges {
    private static final String[] OWN = {"kind", "dealer", "of", "song", "age", "gold", "loads",
        "needs", "chirps", "heat", "snap", "cart", "draw", "or", "and", "not", "mates", "hour",
        "day"};
    private static final String SIGNS = ";()<>=+-*/%";

    private final Edges e;

    private TextEdges(Edges e) {
        this.e = e;
    }

    static void all(Edges e) {
        TextEdges edges = new TextEdges(e);
        edges.longest();
        edges.lines();
        edges.formulas();
        edges.tokens();
        edges.blanks();
        edges.noTokens();
        edges.ownWords();
        edges.sorts();
        edges.dealers();
        edges.others();
        edges.units();
        edges.nesting();
        edges.faultPlaces();
        edges.faultNumbers();
        edges.newObject();
        edges.feed();
        edges.end();
        edges.market();
        edges.marketFault();
        edges.fault();
    }

    private CricketHay good(String text) {
        return answer(text, 0, -1);
    }

    /** The fault is at the @, which is no part of the text. */
    private void fault(int fault, String marked) {
        int place = marked.indexOf('@');
        answer(marked.substring(0, place) + marked.substring(place + 1), fault, place);
    }

    private CricketHay answer(String text, int fault, int place) {
        CricketHay x = new CricketHay();
        String shown = text.length() < 200 ? text : "a text of " + text.length() + " bytes";
        boolean good = Texts.market(x, text) >= 0;
        e.due("whether good: " + shown, fault == 0, good);
        e.due("fault(0) of " + shown, fault, x.fault(0));
        e.due("fault(1) of " + shown, place, x.fault(1));
        return x;
    }

    // ---- Terms ----

    private void longest() {
        e.says("Terms", "A MARKET is a text of at most 1,600 bytes (empty at first): "
            + "market = {line}.");
        String blanks = " ".repeat(1593);
        e.due("cart of 1,600 bytes", 7, good(blanks + "cart 7;").about(2));
        fault(1, blanks + "cart 7@$");
        fault(2, blanks + "cart 7@(");
        fault(2, blanks + " cart 7@");
        e.refused("feed behind 1,600 bytes", -1, () -> fed(1600), x -> x.feed(1, 2, 3, 4, 5));
        CricketHay x = new CricketHay();
        e.due("bytes of a new TAPE", 0, x.about(11));
        e.due("the empty text", 0, x.market());
        good("");
        fault(2, "@;");
        good("kind a;kind b;cart 2;draw 3;");
    }

    private static CricketHay fed(int bytes) {
        CricketHay x = new CricketHay();
        for (int i = 0; i < bytes; i += 20) {
            x.feed(0x20202020, 0x20202020, 0x20202020, 0x20202020, 0x20202020);
        }
        x.end(bytes);
        return x;
    }

    private void lines() {
        e.says("Terms", "line = kind NAME ; | dealer NAME of NAME song N [age N] [gold N] [loads N]"
            + " [needs N] ; | chirps e ; | heat e ; | snap N of N ; | cart N ; | draw N ;.");
        String[] lines = {"kind b ;", "dealer d of k song 1 age 2 gold 3 loads 4 needs 5 ;",
            "chirps 1 ;", "heat 1 ;", "snap 1 of 2 ;", "cart 1 ;", "draw 1 ;"};
        for (String line : lines) {
            good("kind k;" + line);
            String[] tokens = line.split(" ");
            StringBuilder begun = new StringBuilder("kind k;");
            for (int i = 0; i < tokens.length; i++) {
                fault(2, begun + "@)");
                if (i > 0) {
                    fault(2, begun + "@snap");
                }
                if (!tokens[i].equals(";") && !"age gold loads needs".contains(tokens[i])) {
                    fault(2, begun + "@;");
                }
                begun.append(tokens[i]);
                if (i < tokens.length - 1) {
                    fault(2, begun + "@");
                }
                begun.append(' ');
            }
        }
        String[] options = {" age 6", " gold 7", " loads 8", " needs 9"};
        int[] whats = {6, 0, 1, 2};
        for (int told = 0; told < 16; told++) {
            StringBuilder line = new StringBuilder("kind k;dealer d of k song 5");
            for (int i = 0; i < 4; i++) {
                line.append((told >> i & 1) != 0 ? options[i] : "");
            }
            CricketHay x = good(line + ";");
            for (int i = 0; i < 4; i++) {
                e.due("dealer(0, " + whats[i] + ") of " + line, (told >> i & 1) != 0 ? 6 + i : 0,
                    x.dealer(0, whats[i]));
            }
        }
        for (int i = 0; i < 4; i++) {
            for (int j = 0; j <= i; j++) {
                fault(2, "kind k;dealer d of k song 5" + options[i] + " @"
                    + options[j].substring(1) + ";");
            }
        }
    }

    private void formulas() {
        e.says("Terms", "e = both {or both}. both = one {and one}. one = not one | sum "
            + "[(< | > | =) sum]. sum = term {(+ | -) term}. term = unit {(* | / | %) unit}. "
            + "unit = N | heat | song | age | mates | hour | day | ( e ).");
        String[] units = {"1", "heat", "song", "age", "mates", "hour", "day", "(1)", "(not 1)"};
        for (String unit : units) {
            good("heat " + unit + ";chirps " + unit + ";");
            good("heat " + unit + "*" + unit + "/" + unit + "%" + unit + ";");
            good("heat " + unit + "+" + unit + "-" + unit + ";");
            good("heat " + unit + "<" + unit + ";");
            good("heat not " + unit + ">" + unit + " and not not " + unit + "=" + unit + " or "
                + unit + ";");
        }
        for (String sign : new String[] {"<", ">", "="}) {
            fault(2, "heat 1" + sign + "2@" + sign + "3;");
            fault(2, "heat 1" + sign + "@;");
            fault(2, "heat 1" + sign + " @not 2;");
            fault(2, "heat @" + sign + "1;");
        }
        for (String sign : new String[] {"+", "-", "*", "/", "%"}) {
            fault(2, "heat 1" + sign + "@;");
            fault(2, "heat 1" + sign + " @not 2;");
            fault(2, "heat @" + sign + "1;");
            fault(2, "heat 1" + sign + "@" + sign + "1;");
        }
        for (String word : new String[] {"and", "or"}) {
            fault(2, "heat 1 " + word + "@;");
            fault(2, "heat @" + word + " 1;");
            fault(2, "heat 1 " + word + " @" + word + " 1;");
            good("heat 1 " + word + " not 1;");
        }
        fault(2, "heat not@;");
        fault(2, "heat not @and 1;");
        fault(2, "heat (@);");
        fault(2, "heat (1@;");
        fault(2, "heat 1@);");
        fault(2, "heat 1 @2;");
        fault(2, "heat 1 @(2);");
        fault(2, "heat @k;");
        fault(2, "heat @gold;");
    }

    private void tokens() {
        e.says("Terms", "TOKENS: words (a .. z, 8 at most), N (1 to 4 digits), signs "
            + "; ( ) < > = + - * / %;");
        for (int sign = 0; sign < 256; sign++) {
            String text = "cart " + (char) sign;
            if (sign == ' ' || sign == '\n') {
                answer(text, 2, 6);
            } else if (sign == '0') {
                answer(text, 4, 5);
            } else if (sign > '0' && sign <= '9') {
                answer(text, 2, 6);
            } else if (sign >= 'a' && sign <= 'z' || SIGNS.indexOf(sign) >= 0) {
                answer(text, 2, 5);
            } else {
                answer(text, 1, 5);
            }
        }
        for (int letter = 'a'; letter <= 'z'; letter++) {
            good("kind " + String.valueOf((char) letter).repeat(8) + ";");
            fault(1, "kind @" + String.valueOf((char) letter).repeat(9) + ";");
        }
        good("kind a;kind aaaaaaaa;kind aaaaaaa;");
        fault(1, "kind @" + "abcd".repeat(100) + ";");
        e.due("heat of 1 digit", 9, good("heat 9;").heat());
        e.due("heat of 4 digits", 9, good("heat 1009-1000;").heat());
        e.due("draw of 4 digits", 12, good("draw 0012;").about(5));
        e.due("draw of 1 digit", 0, good("draw 0;").about(5));
        fault(1, "draw @00000;");
        fault(1, "draw @00012;");
        fault(1, "draw @" + "9".repeat(40) + ";");
    }

    private void blanks() {
        e.says("Terms", "blanks (32, 10) part them or not; each is as long as can be;");
        good("kind a;dealer d of a song1 age2 gold3;");
        good("cart5;draw7;snap3 of4;heat(1)and(2)or not(3);");
        good("\n\n kind \n a \n ; \n\n");
        good("heat1+2*3<4 and 5;");
        fault(2, "@kinda;");
        fault(2, "@kin d a;");
        fault(2, "heat 1 @2;");
        fault(2, "kind a @b;");
        fault(2, "heat 1<@>2;");
        e.due("cart without a blank", 5, good("cart5;").about(2));
        e.due("a heat of one number", 12, good("heat 12;").heat());
    }

    private void noTokens() {
        e.says("Terms", "no letter directly behind an N");
        fault(1, "cart @5a;");
        fault(1, "cart @5z;");
        fault(1, "cart @5of;");
        fault(1, "heat @1and 2;");
        fault(1, "heat 1<@2or 3;");
        fault(2, "cart 5 @a;");
        fault(2, "cart 5\n@a;");
        e.says("Terms", "(what is none of these, a longer word, more digits, a number with a letter "
            + "behind it: no TOKEN, at its first byte).");
        for (String none : new String[] {"$", "A", "\t", "\r", "\0", "\u00ff", "{", "`", "&", "!"}) {
            fault(1, "kind @" + none + ";");
            fault(1, "kind a@" + none + ";");
            fault(1, "@" + none);
        }
        fault(1, "kind @abcdefghi;");
        fault(1, "@kindkindkind a;");
        fault(1, "cart @12345;");
        fault(1, "cart @12345a;");
        fault(1, "cart @1a;");
        fault(1, "cart @1234abcdefghi;");
        fault(1, "@1a");
        fault(1, "@12345");
        fault(1, "@abcdefghi");
    }

    private void ownWords() {
        e.says("Terms", "Words that stand for themselves here are no NAMES.");
        for (String word : OWN) {
            fault(2, "kind @" + word + ";");
            fault(2, "kind k;dealer @" + word + " of k song 1;");
            fault(2, "kind k;dealer d of @" + word + " song 1;");
            good("kind " + word + "x;dealer x" + word + " of " + word + "x song 1;");
            good("kind " + word.substring(1) + "q;");
            good("kind x" + word.substring(1) + ";");
            good("kind " + word.substring(0, word.length() - 1) + "x;");
        }
        good("kind e;kind n;kind name;");
        good("kind both;kind one;kind sum;");
        good("kind term;kind unit;kind line;");
        good("kind market;kind kinds;kind dealers;");
    }

    private static String kinds(int many) {
        StringBuilder text = new StringBuilder();
        for (int i = 0; i < many; i++) {
            text.append("kind ").append((char) ('k' + i)).append(';');
        }
        return text.toString();
    }

    private static String dealers(int many) {
        StringBuilder text = new StringBuilder();
        for (int i = 0; i < many; i++) {
            text.append("dealer ").append((char) ('a' + i)).append(" of k song ").append(i)
                .append(';');
        }
        return text.toString();
    }

    private void sorts() {
        e.says("Terms", "At most 3 KINDS, 6 DEALERS");
        for (int many = 0; many <= 3; many++) {
            e.due(many + " KINDS", many, good(kinds(many)).about(1));
        }
        fault(2, kinds(3) + "@kind z;");
        fault(2, kinds(3) + dealers(2) + "@kind z;");
        for (int many = 0; many <= 6; many++) {
            e.due(many + " DEALERS", many, good(kinds(1) + dealers(many)).about(0));
        }
        fault(2, kinds(1) + dealers(6) + "@dealer z of k song 1;");
        e.says("Terms", "(whose cricket is of a KIND told ahead;");
        good("kind k;dealer a of k song 1;");
        fault(5, "dealer a of @k song 1;kind k;");
        fault(5, "kind j;dealer a of @k song 1;kind k;");
        fault(5, "kind j;dealer a of @a song 1;");
        e.says("Terms", "0 each if not told), numbered as told, each sort by itself;");
        CricketHay x = good("kind k;dealer a of k song 3;kind j;cart 2;dealer b of j song 4;"
            + "dealer c of k song 5;kind a;dealer d of a song 6;");
        int[] kinds = {0, 1, 0, 2};
        for (int i = 0; i < kinds.length; i++) {
            e.due("KIND of " + i, kinds[i], x.dealer(i, 4));
            e.due("song of " + i, 3 + i, x.dealer(i, 5));
            for (int what : new int[] {0, 1, 2, 6}) {
                e.due("dealer(" + i + ", " + what + ")", 0, x.dealer(i, what));
            }
        }
    }

    private void dealers() {
        e.says("Terms", "song 0 .. 9, age 0 .. 99, gold 0 .. 9999, loads 0 .. 99, needs 0 .. 9;");
        String ahead = "kind k;dealer d of k song ";
        for (int song = 0; song <= 9; song++) {
            e.due("song " + song, song, good(ahead + song + ";").dealer(0, 5));
        }
        fault(4, ahead + "@10;");
        fault(4, ahead + "@9999;");
        fault(2, ahead + "@-1;");
        String[] sorts = {"gold", "loads", "needs", "age"};
        int[] whats = {0, 1, 2, 6};
        int[] most = {9999, 99, 9, 99};
        for (int i = 0; i < sorts.length; i++) {
            String line = ahead + "1 " + sorts[i] + " ";
            e.due(line + 0, 0, good(line + "0;").dealer(0, whats[i]));
            e.due(line + most[i], most[i], good(line + most[i] + ";").dealer(0, whats[i]));
            fault(i == 0 ? 1 : 4, line + "@" + (most[i] + 1) + ";");
            fault(2, line + "@-1;");
        }
    }

    private void others() {
        e.says("Terms", "chirps, heat, snap (0 .. 100 by 100, of 1 .. 20; 0 of 1), cart (1 .. 9; 3),"
            + " draw (0 .. 999; 0) once each;");
        good("snap 0 of 1;");
        good("snap 0 of 20;");
        good("snap 100 of 1;");
        e.due("COLD by 100 of 20", 20, behindAnHour("snap 100 of 20;").about(6));
        e.due("COLD by 100 of 1", 1, behindAnHour("snap 100 of 1;").about(6));
        e.due("COLD by 0 of 20", 0, behindAnHour("snap 0 of 20;").about(6));
        e.due("COLD, snap not told", 0, behindAnHour("").about(6));
        fault(4, "snap @101 of 20;");
        fault(4, "snap 100 of @0;");
        fault(4, "snap 100 of @21;");
        for (int cart = 1; cart <= 9; cart++) {
            e.due("cart " + cart, cart, good("cart " + cart + ";").about(2));
        }
        fault(4, "cart @0;");
        fault(4, "cart @10;");
        e.due("cart, not told", 3, good("").about(2));
        e.due("draw 0", 0, good("draw 0;").about(5));
        e.due("draw 999", 999, good("draw 999;").about(5));
        e.due("draw, not told", 0, good("").about(5));
        fault(4, "draw @1000;");
        String[] lines = {"chirps 1;", "heat 1;", "snap 1 of 1;", "cart 1;", "draw 1;"};
        for (String first : lines) {
            for (String second : lines) {
                if (first.equals(second)) {
                    fault(2, first + "@" + second);
                    fault(2, first + "kind k;@" + second);
                } else {
                    good(first + second);
                }
            }
        }
        good(String.join("", lines));
    }

    private static CricketHay behindAnHour(String text) {
        CricketHay x = Texts.of(text);
        x.hour();
        return x;
    }

    private static String sum(int units) {
        return "1" + "+1".repeat(units - 1);
    }

    private void units() {
        e.says("Terms", "60 units in all, 30 in one e");
        e.due("30 in one", 30, good("heat " + sum(30) + ";").about(12));
        fault(2, "heat " + sum(30) + "+@1;");
        fault(2, "chirps " + sum(30) + "*@hour;");
        fault(2, "chirps " + sum(30) + " or @(hour);");
        fault(2, "chirps " + sum(30) + "<@1;");
        fault(2, "chirps " + sum(30) + "+@;");
        e.due("60 in all", 60, good("heat " + sum(30) + ";chirps " + sum(30) + ";").about(12));
        e.due("59 in all", 59, good("heat " + sum(29) + ";chirps " + sum(30) + ";").about(12));
        fault(2, "heat " + sum(29) + ";chirps " + sum(30) + "+@1;");
        fault(2, "heat " + sum(30) + ";chirps " + sum(30) + "+@1;");
        e.due("29 in brackets, which are one", 30, good("heat (" + sum(29) + ");").about(12));
        fault(2, "heat (" + sum(29) + "+@1);");
        fault(2, "heat (" + sum(29) + ")+@1;");
        e.due("a sum of 30", 30, Texts.of("heat " + sum(30) + ";").heat());
        e.due("nots are no units", 30,
            good("heat not 0+" + sum(28) + " and not 0;").about(12));
    }

    private void nesting() {
        e.says("Terms", "(a unit ( e ), or a one behind not, within 6 others at most).");
        for (String sort : new String[] {"heat ", "chirps "}) {
            good(sort + "(".repeat(7) + "1" + ")".repeat(7) + ";");
            fault(2, sort + "(".repeat(7) + "@(1" + ")".repeat(8) + ";");
            good(sort + "not ".repeat(7) + "1;");
            fault(2, sort + "not ".repeat(7) + "@not 1;");
        }
        for (int nots = 0; nots <= 7; nots++) {
            String begun = "heat " + "(".repeat(7 - nots) + "not ".repeat(nots);
            String ended = ")".repeat(7 - nots);
            good(begun + "1" + ended + ";");
            fault(2, begun + "@(1)" + ended + ";");
            fault(2, begun + "@not 1" + ended + ";");
            begun = "heat " + "not ".repeat(nots) + "(".repeat(7 - nots);
            good(begun + "1<2" + ended + ";");
            fault(2, begun + "@(1)" + ended + ";");
            fault(2, begun + (nots == 7 ? "@" : "1 or @") + "not 1" + ended + ";");
        }
        good("heat " + "(".repeat(7) + "1" + ")".repeat(7) + "+" + "(".repeat(7) + "1"
            + ")".repeat(7) + ";");
        good("heat " + "not ".repeat(7) + "1 or " + "not ".repeat(7) + "1;");
        fault(2, "heat not 1 and " + "not ".repeat(7) + "@not 1;");
        // The longest formula: of thirty units, each behind seven nots, the last one alone counts.
        String nots = "not ".repeat(7);
        e.due("thirty of nothing", 0, good("heat " + (nots + "1 or ").repeat(29) + nots + "1;").heat());
        e.due("the last of thirty", 1, good("heat " + (nots + "1 or ").repeat(29) + nots + "0;").heat());
        e.due("the first of thirty", 1, good("heat " + nots + "0" + (" or " + nots + "1").repeat(29)
            + ";").heat());
    }

    private void faultPlaces() {
        e.says("Terms", "FAULTS, the first by its place (bytes from 0; the end: the text's length), "
            + "at one place the least:");
        fault(2, "@;kind $;kind k;kind k;");
        fault(1, "kind @$;;kind k;kind k;");
        fault(3, "kind k;kind @k;kind $;cart 0;");
        fault(4, "cart @0;$");
        fault(5, "dealer a of @z song 10$");
        fault(2, "kind@");
        fault(2, "kind  \n @");
        fault(2, "kind k;cart 5@");
        // At one place: no TOKEN, where nothing, a number or a new NAME could stand.
        fault(1, "@$");
        fault(1, "cart @99999");
        fault(1, "kind k;kind @kkkkkkkkk");
        fault(1, "heat " + sum(30) + "+@$");
        fault(1, "kind a;kind b;kind c;@kindkinds d;");
        // A number that can't be where none can stand, a NAME told already where none can.
        fault(2, "kind @99;");
        fault(2, "kind k;@k;");
        fault(2, "kind k;dealer k @k song 1;");
        fault(2, "cart 1 @0;");
    }

    private void faultNumbers() {
        e.says("Terms", "1 no TOKEN;");
        fault(1, "kind k@,");
        e.says("Terms", "2 one that can't stand there (one of a sort too many or a second time: at "
            + "the line's first word; a unit too many, what is within 7 others: at its first TOKEN, "
            + "or the not);");
        fault(2, kinds(3) + "@kind k;");
        fault(2, kinds(1) + dealers(6) + "@dealer a of z song 10;");
        fault(2, "cart 3; @cart 0;");
        fault(2, "heat 1; @heat (((((((((;");
        fault(2, "heat " + sum(30) + "*@(1);");
        fault(2, "heat (((((((1+@(2))))))));");
        fault(2, "heat (((((((1))))))) and " + "not ".repeat(7) + "@not 1;");
        e.says("Terms", "3 a NAME told already (of its sort);");
        fault(3, "kind k;kind @k;");
        fault(3, "kind k;kind j;kind @j;");
        fault(3, "kind k;kind j;kind @k;");
        fault(3, "kind k;dealer d of k song 1;dealer @d of k song 1;");
        fault(3, "kind k;" + dealers(5) + "dealer @a of z song 10;");
        fault(3, "kind k;" + dealers(5) + "dealer @e of k song 1;");
        good("kind k;kind d;dealer k of k song 1;dealer d of k song 1;");
        good("kind k;kind kk;kind kkk;dealer kk of kkk song 1;");
        good("kind az;kind zz;kind za;");
        good("kind aaaaaaaa;kind aaaaaaab;kind baaaaaaa;");
        for (int letter = 'b'; letter <= 'z'; letter++) {
            fault(3, "kind " + (char) letter + ";kind a;kind @" + (char) letter + ";");
            for (int other = 'a'; other < letter; other++) {
                good("kind " + (char) letter + "a;kind " + (char) other + "a;");
                good("kind " + (char) letter + "z;kind " + (char) other + "z;");
                good("kind z" + (char) letter + ";kind z" + (char) other + ";");
            }
        }
        e.says("Terms", "4 a number that can't be;");
        fault(4, "kind k;dealer d of k song @10;");
        fault(4, "kind k;dealer d of k song 1 age @100;");
        fault(4, "kind k;dealer d of k song 1 loads @100;");
        fault(4, "kind k;dealer d of k song 1 needs @10;");
        fault(4, "snap @101;");
        fault(4, "draw @1000 5");
        e.says("Terms", "5 a NAME that no KIND has.");
        fault(5, "dealer d of @k song 1;");
        fault(5, "kind k;dealer d of @d song 1;");
        fault(5, "kind k;dealer d of @kk song 1;");
        fault(5, "kind kk;dealer d of @k song 1;");
        fault(5, "kind k;dealer d of k song 1;dealer a of @d song 1;");
        fault(5, "kind abcdefgh;dealer d of @abcdefg song 1;");
        fault(5, "kind abcdefgh;dealer d of @bbcdefgh song 1;");
    }

    // ---- Promises 1 to 5 ----

    private void newObject() {
        e.says("Promise 1: A new object", "An empty MARKET.");
        CricketHay x = new CricketHay();
        int[] about = {0, 0, 3, 0, 0, 0, 0, 0, 0, 0, 0, 0, 0, 0};
        for (int what = 0; what < about.length; what++) {
            e.due("about(" + what + ")", about[what], x.about(what));
        }
        e.due("heat()", 20, x.heat());
        e.due("chorus()", 0, x.chorus());
        e.due("dealer(0, 0)", -100, x.dealer(0, 0));
        e.due("lies(0)", -100, x.lies(0));
        e.due("fits(0)", 100, x.fits(0));
        e.due("undo()", false, x.undo());
        e.due("redo()", false, x.redo());
        for (int box = 0; box < 3; box++) {
            e.due("back(" + box + ")", -1, x.back(box));
        }
        e.due("clear(0)", 0, x.clear(0));
        e.due("song(0)", -1, x.song(0));
        e.due("hush(0)", 0, x.hush(0));
        e.due("hour()", 20, x.hour());
        e.due("the SEED behind it", 71, x.about(5));
    }

    private void feed() {
        e.says("Promise 2: feed", "Twenty bytes come behind those on the TAPE, of each number the "
            + "highest first: how many there are; NONE, and nothing comes, if there would be more "
            + "than 1,600.");
        CricketHay x = new CricketHay();
        e.due("feed cart 7;", 20, x.feed(0x63617274, 0x20373b20, 0x20202020, 0x20202020, 0x6b696e64));
        e.due("feed behind it", 40, x.feed(0x206b3b0a, 0x20202020, 0x20202020, 0x20202020, 0x2020203b));
        e.due("end(39)", 39, x.end(39));
        e.due("market()", 0, x.market());
        e.due("its cart", 7, x.about(2));
        e.due("its KINDS", 1, x.about(1));
        e.due("feed on a TAPE empty again", 20, x.feed(-1, -1, -1, -1, -1));
        e.due("feed to the last byte", 1600, fed(1580).feed(-1, Integer.MIN_VALUE, 0, 1, -2));
        for (int bytes = 1581; bytes <= 1600; bytes++) {
            int n = bytes;
            e.refused("feed behind " + n, -1, () -> fed(n), y -> y.feed(0, 0, 0, 0, 0));
        }
        x = fed(1581);
        x.feed(0x24242424, 0x24242424, 0x24242424, 0x24242424, 0x24242424);
        e.due("what was refused is not read", 0, x.market());
    }

    private void end() {
        e.says("Promise 3: end", "The TAPE has its first n bytes: n; NONE, doing nothing, if it has "
            + "not so many, or n is below 0.");
        Supplier<CricketHay> cart = () -> {
            CricketHay x = new CricketHay();
            Texts.feed(x, "cart 5;draw 4;");
            return x;
        };
        for (int n : new int[] {-1, 15, 20, 1600, Integer.MIN_VALUE, Integer.MAX_VALUE}) {
            e.refused("end(" + n + ")", -1, cart, x -> x.end(n));
        }
        CricketHay x = cart.get();
        e.due("end(15)", -1, x.end(15));
        e.due("end(14), all of it", 14, x.end(14));
        e.due("market() of all", 0, x.market());
        e.due("draw of all", 4, x.about(5));
        x = cart.get();
        e.due("end(7), the first seven", 7, x.end(7));
        e.due("end(8), which are cut off", -1, x.end(8));
        e.due("market() of seven", 0, x.market());
        e.due("cart of seven", 5, x.about(2));
        e.due("draw of seven", 0, x.about(5));
        e.due("end(1) of none", -1, x.end(1));
        e.due("end(0) of none", 0, x.end(0));
        e.due("end(1600) of all", 1600, fed(1600).end(1600));
        e.due("end(1601) of all", -1, fed(1600).end(1601));
    }

    private static final String TWO = "kind k;dealer a of k song 1 gold 500 loads 9;"
        + "dealer b of k song 2 gold 500 loads 9;";

    private static CricketHay used() {
        CricketHay x = Texts.of(TWO + "kind j;snap 100 of 5;draw 7;cart 8;");
        for (int i = 0; i < 25; i++) {
            x.hour();
        }
        x.buy(0, 1, 2);
        x.breathe(0, 3);
        x.free(1);
        x.undo();
        x.heard(3, 4, true);
        x.later(7);
        x.image(0);
        x.image(1);
        x.image(2);
        x.plan(0, 1, 3, 2);
        return x;
    }

    private void market() {
        e.says("Promise 4: market", "The TAPE (empty then) is the MARKET (all as told, HOUR 0 of day"
            + " 0, no COLD, no ACTS are kept, nothing is HEARD, nothing lies there, BOXES are empty "
            + "then; the TIME stays): how many DEALERS;");
        CricketHay x = used();
        int[] before = {2, 2, 8, 1, 1, x.about(5), 40, 27, 1, 1, 7, 0, 0, 2};
        for (int what = 0; what < before.length; what++) {
            e.due("ahead of it: about(" + what + ")", before[what], x.about(what));
        }
        e.due("market()", 2, Texts.market(x, TWO));
        int[] about = {2, 1, 3, 0, 0, 0, 0, 0, 0, 0, 7, 0, 0, 0};
        for (int what = 0; what < about.length; what++) {
            e.due("behind it: about(" + what + ")", about[what], x.about(what));
        }
        for (int dealer = 0; dealer < 2; dealer++) {
            int[] due = {500, 9, 0, 0, 0, 1 + dealer, 0, 0, 0, 21 + dealer, 1};
            for (int what = 0; what < due.length; what++) {
                e.due("dealer(" + dealer + ", " + what + ")", due[what], x.dealer(dealer, what));
            }
        }
        e.due("undo()", false, x.undo());
        e.due("redo()", false, x.redo());
        e.due("lies(0)", -100, x.lies(0));
        e.due("fits(7)", 100, x.fits(7));
        for (int box = 0; box < 3; box++) {
            e.due("back(" + box + ")", -1, x.back(box));
        }
        e.due("market() of an empty TAPE", 0, x.market());
        e.due("its KINDS", 0, x.about(1));
        e.due("its TIME", 7, x.about(10));
        e.due("market() of six", 6, Texts.market(x, kinds(1) + dealers(6)));
        formerOnes();
    }

    /** Nothing that two former MARKETS told, and that was done in them, is left. */
    private void formerOnes() {
        String rich = "kind k;kind j;dealer a of j song 9 age 9 gold 9 loads 9 needs 9;"
            + "dealer b of j song 8 needs 8;dealer c of j song 7;chirps 7;heat 33+hour;"
            + "snap 100 of 20;cart 9;draw 999;";
        CricketHay x = new CricketHay();
        for (int i = 0; i < 2; i++) {
            e.due("market() of the rich one", 3, Texts.market(x, rich));
            hours(x, 25);
            x.breathe(0, 5);
            x.free(0);
            x.free(1);
            e.due("HUNGER", 8, x.dealer(1, 3));
        }
        e.due("market() of a bare one", 2,
            Texts.market(x, "kind i;dealer c of i song 1;dealer d of i song 2;"));
        int[] about = {2, 1, 3, 0, 0, 0, 0, 0, 0, 0, 0, 0, 0, 0};
        for (int what = 0; what < about.length; what++) {
            e.due("bare: about(" + what + ")", about[what], x.about(what));
        }
        for (int dealer = 0; dealer < 2; dealer++) {
            int[] due = {0, 0, 0, 0, 0, 1 + dealer, 0, 0, 0, 21 + dealer, 1};
            for (int what = 0; what < due.length; what++) {
                e.due("bare: dealer(" + dealer + ", " + what + ")", due[what],
                    x.dealer(dealer, what));
            }
        }
        e.due("bare: chorus()", 43, x.chorus());
        e.due("bare: hour()", 20, x.hour());
        e.due("bare: the COLD", 0, x.about(6));
        e.due("all sorts told once more", 0,
            Texts.market(x, "draw 1;cart 1;snap 1 of 1;heat 1;chirps 1;"));
    }

    private static void hours(CricketHay x, int many) {
        for (int i = 0; i < many; i++) {
            x.hour();
        }
    }

    private void marketFault() {
        e.says("Promise 4: market", "NONE: a FAULT (the TAPE is empty then, too; all else stays).");
        String[] faulty = {"$", "kind z", "kind z;cart 9;draw 5;heat 3;chirps 4;kind z;",
            kinds(3) + dealers(6) + "snap 1 of 1;cart 0;", "dealer q of z song 1;"};
        for (String text : faulty) {
            CricketHay x = used();
            var before = State.of(x);
            e.due("market() of " + text, -1, Texts.market(x, text));
            var after = State.of(x);
            for (String asked : before.keySet()) {
                if (!asked.startsWith("fault")) {
                    e.due("behind " + text + ": " + asked, before.get(asked), after.get(asked));
                }
            }
            e.due("bytes on the TAPE", 0, x.about(11));
            e.due("redo() behind a FAULT", true, x.redo());
            e.due("who is FREE again", 1, x.dealer(1, 8));
            e.due("back(2) behind a FAULT", 1, x.back(2));
            e.due("will() behind a FAULT", x.price(0, 1), x.will(0, 1, 0));
            e.due("hour() behind a FAULT", 0, x.hour());
        }
    }

    private void fault() {
        e.says("Promise 5: fault", "Of the latest market() what 0: its FAULT (0: without; ahead of "
            + "any, too), 1: its place (NONE). NONE for another what.");
        CricketHay x = new CricketHay();
        e.due("ahead of any: fault(0)", 0, x.fault(0));
        e.due("ahead of any: fault(1)", -1, x.fault(1));
        Texts.market(x, "kind k;;");
        e.due("fault(0)", 2, x.fault(0));
        e.due("fault(1)", 7, x.fault(1));
        for (int what : new int[] {-1, 2, Integer.MIN_VALUE, Integer.MAX_VALUE}) {
            e.due("fault(" + what + ")", -1, x.fault(what));
        }
        Texts.market(x, "$");
        e.due("fault(0) at the first byte", 1, x.fault(0));
        e.due("fault(1) at the first byte", 0, x.fault(1));
        Texts.feed(x, "kind k;");
        e.due("fault(0), the TAPE not read yet", 1, x.fault(0));
        x.market();
        e.due("fault(0) of a good one", 0, x.fault(0));
        e.due("fault(1) of a good one", -1, x.fault(1));
    }
}
