import java.util.LinkedHashMap;
import java.util.List;
import java.util.Map;

/**
 * All that can be found out about a dock. The rate, the cleaning, the next id and the like show by
 * changes alone, so the dock is made anew for each part.
 */
final class Whole {

    interface Maker {
        FloatingDock make();
    }

    interface Act {
        Object on(FloatingDock dock);
    }

    private static final int SOME_MORE_THAN_KEPT = 11;

    private Whole() {
    }

    static Map<String, String> of(Maker maker) {
        Map<String, String> parts = new LinkedHashMap<>();
        parts.put("picture", Docks.picture(maker.make()));
        parts.put("line", Docks.line(maker.make()));
        parts.put("reason", told(maker, d -> d.refusalReason()));
        parts.put("error", told(maker, d -> d.errorPosition()));
        parts.put("failed", told(maker, d -> d.failedCommand()));
        parts.put("text", text(maker.make()));
        parts.put("rate", told(maker, d -> d.setPump(0)));
        parts.put("cleaning", cleaning(maker.make()));
        parts.put("next id", nextId(maker.make()));
        parts.put("history", history(maker));
        parts.put("snapshot", snapshot(maker));
        return parts;
    }

    /** The two docks must be the same but for these parts. */
    static void same(String what, Maker got, Maker due, String... but) {
        Map<String, String> one = of(got);
        Map<String, String> other = of(due);
        one.keySet().removeAll(List.of(but));
        for (String part : one.keySet()) {
            Check.that(what + ", " + part, one.get(part), other.get(part));
        }
    }

    private static String told(Maker maker, Act act) {
        FloatingDock dock = maker.make();
        return Check.outcome(() -> act.on(dock)).toString();
    }

    private static String text(FloatingDock dock) {
        Object length = Check.outcome(() -> dock.append(' '));
        Object answer = Check.outcome(() -> dock.run());
        return length + " " + answer + " " + Check.outcome(() -> dock.errorPosition()) + " "
                + Check.outcome(() -> dock.failedCommand());
    }

    private static String cleaning(FloatingDock dock) {
        StringBuilder told = new StringBuilder();
        for (int place = 0; place < dock.shipCount(); place++) {
            int id = dock.shipAt(place);
            told.append(Check.outcome(() -> dock.setCleaning(id, false))).append(' ');
        }
        return told.toString();
    }

    private static String nextId(FloatingDock dock) {
        for (int place = dock.shipCount() - 1; place >= 0; place--) {
            int id = dock.shipAt(place);
            Check.outcome(() -> dock.removeShip(id));
        }
        return Check.outcome(() -> dock.addShip(5, 5, 5)).toString();
    }

    /** A dock for each number of undone changes, as a picture takes many of the 512 calls. */
    private static String history(Maker maker) {
        StringBuilder told = new StringBuilder();
        for (int undone = 0; undone <= SOME_MORE_THAN_KEPT; undone++) {
            FloatingDock dock = maker.make();
            for (int i = 0; i < undone; i++) {
                told.append(Check.outcome(() -> dock.undo())).append(' ');
            }
            told.append(Docks.picture(dock)).append(' ').append(dock.setPump(0)).append('\n');
        }
        return told.toString();
    }

    private static String snapshot(Maker maker) {
        Maker restored = () -> {
            FloatingDock dock = maker.make();
            Check.outcome(() -> dock.restore());
            return dock;
        };
        return told(maker, d -> d.restore()) + " " + Docks.picture(restored.make()) + " "
                + told(restored, d -> d.setPump(0)) + " " + cleaning(restored.make()) + " "
                + nextId(restored.make());
    }
}
