import java.util.LinkedHashMap;
import java.util.Map;

/** All that can be asked of an object without changing it, by the calls that ask it. */
final class State {
    private State() {
    }

    static Map<String, Integer> of(CricketHay x) {
        Map<String, Integer> all = new LinkedHashMap<>();
        for (int dealer = 0; dealer < x.about(0); dealer++) {
            for (int what = 0; what <= 10; what++) {
                all.put("dealer(" + dealer + ", " + what + ")", x.dealer(dealer, what));
            }
        }
        for (int what = 0; what <= 13; what++) {
            all.put("about(" + what + ")", x.about(what));
        }
        for (int i = 0; i <= 12; i++) {
            all.put("lies(" + i + ")", x.lies(i));
        }
        all.put("fault(0)", x.fault(0));
        all.put("fault(1)", x.fault(1));
        all.put("heat()", x.heat());
        all.put("chorus()", x.chorus());
        all.put("songs(0)", x.songs(0));
        all.put("starve(24)", x.starve(24));
        for (int k = 0; k <= 3; k++) {
            all.put("fits(" + k + ")", x.fits(k));
        }
        return all;
    }

    /** The same, but for what lies there. */
    static Map<String, Integer> butLies(CricketHay x) {
        Map<String, Integer> all = of(x);
        all.keySet().removeIf(call -> call.startsWith("lies") || call.equals("about(13)"));
        return all;
    }
}
