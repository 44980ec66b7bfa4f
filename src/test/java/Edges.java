import java.io.IOException;
import java.nio.file.Path;
import java.util.Map;
import java.util.function.Supplier;
import java.util.function.ToIntFunction;

/** Answers that are due by a sentence of the document, whose words each of them bears. */
final class Edges {
    private final Check check = new Check("EdgesTest");
    private final Doc doc;
    private String sentence = "";

    Edges() throws IOException {
        doc = Doc.read(Path.of("../shared/DOC.md"));
        check.due("sections of the document: Terms and 42 promises", 43, doc.sections());
    }

    /** What follows is due by these words of a section. */
    void says(String section, String words) {
        sentence = section + ", \"" + words + "\"";
        check.due("the document has: " + sentence, true, doc.bear(section, words));
    }

    void due(String call, long want, long got) {
        check.due(sentence + ": " + call, want, got);
    }

    void due(String call, boolean want, boolean got) {
        check.due(sentence + ": " + call, want, got);
    }

    void lies(String when, CricketHay x, int... due) {
        check.lies(sentence + ": " + when, x, due);
    }

    /** The call answers so, and nothing that can be asked is another then. */
    void refused(String call, int want, Supplier<CricketHay> fresh,
        ToIntFunction<CricketHay> asked) {
        CricketHay x = fresh.get();
        Map<String, Integer> before = State.of(x);
        due(call, want, asked.applyAsInt(x));
        same(call, before, State.of(x));
    }

    /** Whatever the call answers, nothing that can be asked is another then. */
    void nothingDone(String call, Supplier<CricketHay> fresh, ToIntFunction<CricketHay> asked) {
        CricketHay x = fresh.get();
        Map<String, Integer> before = State.of(x);
        asked.applyAsInt(x);
        same(call, before, State.of(x));
    }

    /** The same of a call that leaves numbers lying there. */
    void nothingButLies(String call, Supplier<CricketHay> fresh,
        ToIntFunction<CricketHay> asked) {
        CricketHay x = fresh.get();
        Map<String, Integer> before = State.butLies(x);
        asked.applyAsInt(x);
        same(call, before, State.butLies(x));
    }

    /** The call answers so, nothing lies there then, and all else is as it was. */
    void refusedBare(String call, int want, Supplier<CricketHay> fresh,
        ToIntFunction<CricketHay> asked) {
        CricketHay x = fresh.get();
        Map<String, Integer> before = State.butLies(x);
        due(call, want, asked.applyAsInt(x));
        lies("behind " + call, x);
        same(call, before, State.butLies(x));
    }

    private void same(String call, Map<String, Integer> before, Map<String, Integer> after) {
        for (String asked : before.keySet()) {
            due("behind " + call + ", " + asked, before.get(asked), after.get(asked));
        }
    }

    void end() {
        for (String left : doc.left()) {
            check.due("words that no test bears: " + left, 0, 1);
        }
        check.end();
    }
}
