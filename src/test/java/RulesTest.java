import java.lang.management.ManagementFactory;
import java.nio.file.Files;
import java.nio.file.Path;
import java.util.List;
import java.util.regex.Pattern;

/** What can be seen of LANGUAGE.md's rules in the source, and that no call makes an object. */
final class RulesTest {
    private static final Check CHECK = new Check("RulesTest");
    private static final String SOURCE = "src/main/java/CricketHay.java";

    // What the rules rule out, as it would stand in a line of code.
    private static final String[] BANNED = {"\\bthrows?\\b", "\\btry\\b", "\\bcatch\\b",
        "\\bfinally\\b", "\\bsynchronized\\b", "\\bassert\\b", "->", "::", "\\blambda\\b",
        "\\w+Exact\\b", "\\bSystem\\.(?!arraycopy)", "\\bThread\\b", "\\bRandom\\b", "\\bMath\\.(?!"
        + "min|max|abs|floorDiv|floorMod)", "\\bequals\\b", "\\bhashCode\\b", "\\btoString\\b",
        "\\bpackage\\b", "\\bvar\\b", "\\brecord\\b", "\"\\s*\\+", "\\+\\s*\"", "while \\(true\\)",
        "for \\(;;", "[^\\x00-\\x7f]", "import (?!java\\.util\\.Arrays;)"};

    public static void main(String[] args) throws Exception {
        List<String> lines = Files.readAllLines(Path.of(SOURCE));
        banned(lines);
        newOnlyInFields(lines);
        shortMethods(lines);
        noObjects();
        CHECK.end();
    }

    private static String code(String line) {
        String trimmed = line.strip();
        return trimmed.startsWith("*") || trimmed.startsWith("/*") || trimmed.startsWith("//")
            ? "" : trimmed;
    }

    private static void banned(List<String> lines) {
        for (String banned : BANNED) {
            Pattern pattern = Pattern.compile(banned);
            for (int i = 0; i < lines.size(); i++) {
                CHECK.due("line " + (i + 1) + " has " + banned, false,
                    pattern.matcher(code(lines.get(i))).find());
            }
        }
    }

    /** Rows are made in fields, and objects of a row in the constructor's own loop. */
    private static void newOnlyInFields(List<String> lines) {
        for (int i = 0; i < lines.size(); i++) {
            String line = code(lines.get(i));
            if (line.contains("new ")) {
                CHECK.due("line " + (i + 1) + " makes what it may: " + line, true,
                    line.matches("(private )?(final )?\\w+(\\[\\])? \\w+ = new .*")
                        || line.matches("yards\\[i\\] = new Yard\\(\\);"));
            }
        }
    }

    private static void shortMethods(List<String> lines) {
        int start = -1;
        for (int i = 0; i < lines.size(); i++) {
            String line = lines.get(i);
            if (line.matches("(    ){1,2}(?! )[^=;]*\\(.*\\) \\{")) {
                start = i;
            }
            if (start >= 0 && line.matches("(    ){1,2}\\}")) {
                CHECK.due("short: the method of line " + (start + 1), true, i - start <= 60);
                start = -1;
            }
        }
    }

    private static void noObjects() {
        CricketHay hay = Texts.of("kind k;dealer a of k song 1 gold 99 loads 5 needs 2;"
            + "dealer b of k song 3 gold 99 loads 9 needs 4;dealer c of k song 4 needs 1;"
            + "chirps heat*song%(age+7) or 0;heat 10+hour;snap 30 of 4;");
        calls(hay);
        var threads = (com.sun.management.ThreadMXBean) ManagementFactory.getThreadMXBean();
        threads.getCurrentThreadAllocatedBytes();
        long before = threads.getCurrentThreadAllocatedBytes();
        long empty = threads.getCurrentThreadAllocatedBytes() - before;
        before = threads.getCurrentThreadAllocatedBytes();
        calls(hay);
        long made = threads.getCurrentThreadAllocatedBytes() - before;
        CHECK.due("bytes that calls make", true, made - empty < 1000);
    }

    private static void calls(CricketHay x) {
        x.feed(0x6b696e64, 0x206b3b6b, 0x696e6420, 0x6a3b2020, 0x20203b20);
        x.end(19);
        x.market();
        x.fault(0);
        for (int d = 0; d < 3; d++) {
            for (int e = 0; e < 3; e++) {
                x.dealer(d, e + 8);
                x.price(d, e);
                x.buy(d, e, 1);
                x.will(d, e, 60);
                x.low(d, e, 60);
                x.high(d, e, 60);
                x.plan(d, e, 20, 12);
                x.mean(d, e, 3, 0);
                x.odds(d, e, 20, 4, 1);
                x.rest(d, e, 9);
            }
            x.cheapest(d);
            x.lasts(d);
            x.breathe(d, 2);
            x.gain(d);
            x.spoils(d);
            x.law(d);
            x.clear(d);
            x.song(d);
            x.songs(d);
            x.image(d);
            x.hour();
            x.heard(d, 20, true);
            x.untell(d);
            x.ask(20, 0, d);
        }
        x.heat();
        x.chorus();
        x.starve(60);
        x.hush(0);
        x.undo();
        x.redo();
        x.free(2);
        x.later(1);
        x.fits(1);
        x.sure(1);
        x.lies(1);
        x.about(1);
        x.back(0);
    }
}
