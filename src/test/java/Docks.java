/** Docks in states that the tests need, and what can be seen of a dock. */
final class Docks {

    private Docks() {
    }

    /** At the hour 7, level 0, gate closed, pump at -30. */
    static FloatingDock empty() {
        FloatingDock dock = new FloatingDock();
        dock.setGate(false);
        dock.setPump(-30);
        dock.pass(4);
        return dock;
    }

    /** At the hour 10, level 90, gate open, pump at 30. */
    static FloatingDock withBlocks(int... positions) {
        FloatingDock dock = empty();
        for (int position : positions) {
            dock.placeBlock(position);
        }
        dock.setPump(30);
        dock.pass(3);
        dock.setGate(true);
        return dock;
    }

    /** At the hour 13, level 0, gate closed, pump at -30: after withBlocks and entering. */
    static void drain(FloatingDock dock) {
        dock.setGate(false);
        dock.setPump(-30);
        dock.pass(3);
    }

    /** With the gate closed and the pump at 0, at any hour. */
    static FloatingDock atLevel(int level) {
        FloatingDock dock = new FloatingDock();
        dock.setGate(false);
        pumpTo(dock, level);
        return dock;
    }

    /** With the gate open, at an hour when the sea allows it; the level is from 20 to 180. */
    static FloatingDock openAt(int level) {
        FloatingDock dock = atLevel(level);
        openAtTide(dock);
        return dock;
    }

    /** The gate is closed already. */
    static void pumpTo(FloatingDock dock, int level) {
        while (dock.level() != level) {
            dock.setPump(Math.max(-30, Math.min(30, level - dock.level())));
            dock.pass(1);
        }
        dock.setPump(0);
    }

    /** The gate is closed already, and the pump is at 0. */
    static void openAtTide(FloatingDock dock) {
        while (Math.abs(dock.level() - dock.seaLevel(dock.hour() % 12)) > 20) {
            dock.pass(1);
        }
        dock.setGate(true);
    }

    /** At this hour, with the gate closed and the pump at 0; the level is 100. */
    static FloatingDock atHour(int hour) {
        FloatingDock dock = new FloatingDock();
        dock.setGate(false);
        passUntil(dock, hour);
        return dock;
    }

    static void passUntil(FloatingDock dock, int hour) {
        while (dock.hour() < hour) {
            dock.pass(Math.min(48, hour - dock.hour()));
        }
    }

    /** Adds ships of these lengths, with draught 20 and dirt 10 times their id. */
    static FloatingDock withShips(int... lengths) {
        FloatingDock dock = new FloatingDock();
        addShips(dock, lengths);
        return dock;
    }

    static void addShips(FloatingDock dock, int... lengths) {
        for (int length : lengths) {
            dock.addShip(length, 20, dock.shipCount() * 10);
        }
    }

    static void type(FloatingDock dock, String text) {
        for (int i = 0; i < text.length(); i++) {
            dock.append(text.charAt(i));
        }
    }

    static Object run(FloatingDock dock, String text) {
        type(dock, text);
        return Check.outcome(() -> dock.run());
    }

    /** The line of the dock, read until there is no further character. */
    static String line(FloatingDock dock) {
        StringBuilder line = new StringBuilder();
        for (int i = 0; Check.outcome(readAt(dock, i)) instanceof Character; i++) {
            line.append(dock.lineAt(i));
        }
        return line.toString();
    }

    private static Check.Call readAt(FloatingDock dock, int index) {
        return () -> dock.lineAt(index);
    }

    static String bill(FloatingDock dock, int ship) {
        dock.describeBill(ship);
        return line(dock);
    }

    /** All that can be seen without changing anything, but for the line. */
    static String picture(FloatingDock dock) {
        StringBuilder picture = new StringBuilder();
        picture.append(dock.shipCount()).append(' ').append(dock.isGateOpen()).append(' ');
        picture.append(dock.level()).append(' ').append(dock.hour()).append(' ');
        picture.append(dock.levelAfter(1)).append(' ').append(dock.paidTotal()).append(' ');
        picture.append(dock.billTotal()).append(' ').append(dock.billTotalByAccount());
        for (int place = 0; place < dock.shipCount(); place++) {
            int id = dock.shipAt(place);
            picture.append(" #").append(id).append(' ').append(dock.dirtOf(id)).append(' ');
            picture.append(dock.damageOf(id)).append(' ').append(dock.hoursAfloat(id)).append(' ');
            picture.append(dock.billOf(id)).append(' ').append(dock.isInDock(id));
            if (dock.isInDock(id)) {
                picture.append(dock.positionOf(id));
            }
        }
        picture.append(" ^");
        for (int position = 0; position < 60; position++) {
            if (dock.hasBlock(position)) {
                picture.append(position).append(' ');
            }
        }
        return picture.toString();
    }

    /** The call must throw just this, change nothing, and leave no change to undo. */
    static void refuses(String what, FloatingDock dock, Class<?> due, Check.Call call) {
        Object reason = Check.outcome(() -> dock.refusalReason());
        quietlyRefuses(what, dock, due, call);
        Check.that(what + ": keeps no reason", Check.outcome(() -> dock.refusalReason()), reason);
    }

    static void refusesFor(String what, FloatingDock dock, int reason, Check.Call call) {
        quietlyRefuses(what, dock, UnsupportedOperationException.class, call);
        Check.that(what + ": reason", dock.refusalReason(), reason);
    }

    private static void quietlyRefuses(String what, FloatingDock dock, Class<?> due,
            Check.Call call) {
        String before = picture(dock);
        Check.fails(what, due, call);
        Check.that(what + ": changes nothing", picture(dock), before);
    }
}
