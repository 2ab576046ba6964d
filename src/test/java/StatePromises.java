/** Promises 48 to 56: the line, statistics, undo and the snapshot. */
final class StatePromises {

    private static final Class<?> STATE = IllegalStateException.class;
    private static final Class<?> INDEX = IndexOutOfBoundsException.class;

    private StatePromises() {
    }

    static void runAll() {
        describeDock();
        describeBill();
        lineAt();
        meanDirt();
        takenShare();
        isConsistent();
        undoEachChange();
        undoNoMoreThanEight();
        undoIsNoChange();
        successWithoutDifference();
        saveAndRestore();
        saveEverything();
    }

    private static void describeDock() {
        FloatingDock dock = Docks.withBlocks(0, 5, 9, 10, 30, 59);
        Check.that("promise 48: 60", dock.describeDock(), 60);
        Check.that("promise 48: blocks", Docks.line(dock),
                "^....^...^^...................^............................^");
        Docks.addShips(dock, 5, 6, 7);
        dock.enter(2, 53);
        dock.enter(0, 5);
        Check.that("promise 48: 60 again", dock.describeDock(), 60);
        Check.that("promise 48: blocks and ships", Docks.line(dock),
                "^....00000^...................^......................2222222");
        for (int i = 0; i < 9; i++) {
            dock.removeShip(dock.addShip(5, 5, 5));
        }
        dock.enter(dock.addShip(5, 5, 5), 10);
        dock.describeDock();
        Check.that("promise 48: the last digit of 12", Docks.line(dock),
                "^....0000022222...............^......................2222222");
    }

    private static void describeBill() {
        FloatingDock dock = Docks.withBlocks(0, 1, 2);
        dock.addShip(10, 20, 50);
        dock.addShip(10, 20, 0);
        Check.that("promise 49: length", dock.describeBill(0), 7);
        Check.that("promise 49: outside", Docks.line(dock), "#0:0/50");
        dock.enter(0, 0);
        dock.enter(1, 20);
        Check.that("promise 49: no bill yet", Docks.bill(dock, 1), "#1:0/0~");
        Docks.drain(dock);
        Check.that("promise 49: rests on blocks", Docks.bill(dock, 0), "#0:9/50_");
        Check.that("promise 49: rests on none", Docks.bill(dock, 1), "#1:6/0!1_");
        dock.setPump(30);
        dock.pass(4);
        Check.that("promise 49: floats", Docks.bill(dock, 1), "#1:14/0!1~");
        Check.that("promise 49: its length", dock.describeBill(1), 10);
        Docks.refuses("promise 49: no ship", dock, java.util.NoSuchElementException.class,
                () -> dock.describeBill(2));
        Check.that("promise 49: the line is left", Docks.line(dock), "#1:14/0!1~");
    }

    private static void lineAt() {
        FloatingDock dock = Docks.withShips(10);
        Check.fails("promise 50: initially empty", INDEX, () -> dock.lineAt(0));
        dock.describeDock();
        dock.describeBill(0);
        Check.that("promise 50: the first", dock.lineAt(0), '#');
        Check.that("promise 50: the last", dock.lineAt(5), '0');
        for (int index : new int[] {-1, 6, 59, 60, Integer.MIN_VALUE, Integer.MAX_VALUE}) {
            Docks.refuses("promise 50: " + index, dock, INDEX, () -> dock.lineAt(index));
        }
        dock.undo();
        Check.that("promise 50: not undone", Docks.line(dock), "#0:0/0");
        dock.save();
        dock.describeDock();
        dock.restore();
        Check.that("promise 50: not restored", Docks.line(dock).length(), 60);
    }

    private static void meanDirt() {
        FloatingDock dock = new FloatingDock();
        Docks.refuses("promise 51: no ships", dock, ArithmeticException.class,
                () -> dock.meanDirt());
        dock.addShip(5, 5, 7);
        Check.that("promise 51: one", dock.meanDirt(), 7.0);
        dock.addShip(5, 5, 0);
        Check.that("promise 51: two", dock.meanDirt(), 3.5);
        dock.addShip(5, 5, 3);
        dock.enter(2, 0);
        Check.that("promise 51: three", dock.meanDirt(), 10.0 / 3.0);
        dock.removeShip(0);
        Check.that("promise 51: without the removed one", dock.meanDirt(), 1.5);
        FloatingDock eight = Docks.withShips(5, 5, 5, 5, 5, 5, 5, 5);
        Check.that("promise 51: eight", eight.meanDirt(), 35.0);
    }

    private static void takenShare() {
        FloatingDock dock = Docks.withShips(5, 6, 7);
        Check.that("promise 52: none", dock.takenShare(), 0f);
        dock.enter(0, 0);
        Check.that("promise 52: 5", dock.takenShare(), 5f / 60f);
        dock.enter(2, 30);
        Check.that("promise 52: 12", dock.takenShare(), 12f / 60f);
        FloatingDock full = Docks.withShips(30, 30);
        full.enter(0, 0);
        full.enter(1, 30);
        Check.that("promise 52: all", full.takenShare(), 1f);
    }

    private static void isConsistent() {
        FloatingDock dock = new FloatingDock();
        Check.that("promise 53: new", dock.isConsistent(), true);
        String before = Docks.picture(dock);
        Docks.addShips(dock, 10, 11, 12, 5);
        dock.enter(1, 20);
        dock.enter(3, 3);
        dock.pass(7);
        Check.that("promise 53: ships", dock.isConsistent(), true);
        FloatingDock full = Docks.withBlocks(1, 2, 3, 4, 5, 6, 7, 8, 9, 10, 11);
        Docks.addShips(full, 7, 7, 7, 7, 7, 7, 7, 7);
        full.enter(3, 1);
        Docks.drain(full);
        full.pass(4);
        Check.that("promise 53: eight ships", full.isConsistent(), true);
        before = Docks.picture(full);
        full.isConsistent();
        Check.that("promise 53: changes nothing", Docks.picture(full), before);
    }

    private interface Change {
        void on(FloatingDock dock);
    }

    private static void undoing(String what, FloatingDock dock, Change change) {
        String before = Docks.picture(dock);
        change.on(dock);
        String after = Docks.picture(dock);
        int left = dock.undo();
        Check.that("promise 54: " + what, Docks.picture(dock), before);
        change.on(dock);
        Check.that("promise 54: again, " + what, Docks.picture(dock), after);
        Check.that("promise 54: changes, " + what, dock.undo(), left);
        change.on(dock);
    }

    private static void undoEachChange() {
        FloatingDock dock = new FloatingDock();
        undoing("addShip", dock, d -> d.addShip(10, 20, 30));
        undoing("addShip, id 1", dock, d -> Check.that("promise 54: id", d.addShip(10, 20, 30), 1));
        undoing("setGate", dock, d -> d.setGate(false));
        undoing("setPump", dock, d -> d.setPump(-30));
        undoing("pass", dock, d -> d.pass(4));
        undoing("placeBlock", dock, d -> d.placeBlock(7));
        undoing("placeBlock again", dock, d -> d.placeBlock(8));
        undoing("placeBlock once more", dock, d -> d.placeBlock(9));
        undoing("removeBlock", dock, d -> d.removeBlock(8));
        undoing("removeShip", dock, d -> d.removeShip(0));
        dock.setPump(30);
        dock.pass(3);
        undoing("setGate to open", dock, d -> d.setGate(true));
        undoing("enter", dock, d -> d.enter(1, 0));
        undoing("setCleaning", dock, d -> Check.that("promise 54: cleaning",
                d.setCleaning(1, true), false));
        Docks.drain(dock);
        undoing("pass with cleaning", dock, d -> d.pass(2));
        undoing("pay", dock, d -> d.pay(1, dock.billOf(1)));
        undoing("run", dock, d -> Docks.run(d, "pump 30;pass 1;pay 1+1"));
        undoing("damage and hours afloat", dock, d -> d.pass(9));
        dock.pay(1, dock.billOf(1));
        FloatingDock other = Docks.withShips(10);
        other.enter(0, 0);
        undoing("leave", other, d -> d.leave(0));
        other.undo();
        Check.that("promise 54: still in the dock", other.isInDock(0), true);
    }

    private static void undoNoMoreThanEight() {
        FloatingDock dock = new FloatingDock();
        Docks.refuses("promise 54: nothing", dock, STATE, () -> dock.undo());
        for (int rate = 1; rate <= 12; rate++) {
            dock.setPump(rate);
        }
        for (int left = 7; left >= 0; left--) {
            Check.that("promise 54: left", dock.undo(), left);
        }
        Docks.refuses("promise 54: no more", dock, STATE, () -> dock.undo());
        Check.that("promise 54: the ninth latest stays", dock.setPump(20), 4);
        Check.that("promise 54: one again", dock.undo(), 0);
        Check.that("promise 54: back at it", dock.setPump(20), 4);
    }

    private static void undoIsNoChange() {
        FloatingDock dock = new FloatingDock();
        for (int rate = 1; rate <= 8; rate++) {
            dock.setPump(rate);
        }
        Check.that("promise 54: 7 are left", dock.undo(), 7);
        Check.that("promise 54: 6 are left", dock.undo(), 6);
        dock.setPump(30);
        Check.that("promise 54: undoes the new one", dock.undo(), 6);
        Check.that("promise 54: goes on before it", dock.undo(), 5);
        Check.that("promise 54: the rate", dock.setPump(29), 5);
        Check.outcome(() -> dock.setPump(31));
        Check.outcome(() -> dock.pass(0));
        dock.save();
        dock.describeDock();
        dock.append('x');
        Check.that("promise 54: nothing else is a change", dock.undo(), 5);
        Check.that("promise 54: the rate again", dock.setPump(29), 5);
    }

    private static void successWithoutDifference() {
        FloatingDock dock = Docks.withShips(10);
        dock.enter(0, 0);
        dock.setCleaning(0, false);
        dock.setCleaning(0, false);
        dock.setGate(true);
        dock.setPump(0);
        Docks.run(dock, "open;open");
        Check.that("promise 54: each is a change", dock.undo(), 6);
        dock.undo();
        dock.undo();
        Check.that("promise 54: still", dock.undo(), 3);
        Check.that("promise 54: in the dock", dock.isInDock(0), true);
    }

    private static void saveAndRestore() {
        FloatingDock dock = new FloatingDock();
        Docks.refuses("promise 56: no snapshot", dock, STATE, () -> dock.restore());
        Docks.addShips(dock, 10, 11, 12);
        dock.enter(1, 5);
        dock.setCleaning(1, true);
        Check.that("promise 55: 3 ships", dock.save(), 3);
        String saved = Docks.picture(dock);
        dock.pass(20);
        dock.removeShip(0);
        dock.addShip(5, 5, 5);
        dock.addShip(5, 5, 5);
        Check.that("promise 56: 3 ships", dock.restore(), 3);
        Check.that("promise 56: as saved", Docks.picture(dock), saved);
        Docks.refuses("promise 56: nothing to undo", dock, STATE, () -> dock.undo());
        Check.that("promise 56: cleaning is restored", dock.setCleaning(1, true), true);
        Check.that("promise 56: the next id is restored", dock.addShip(5, 5, 5), 3);
        Check.that("promise 56: one is undone", dock.undo(), 1);
        dock.undo();
        dock.pass(1);
        dock.addShip(9, 9, 9);
        Check.that("promise 56: the snapshot is kept", dock.restore(), 3);
        Check.that("promise 56: as saved, again", Docks.picture(dock), saved);
        dock.removeShip(0);
        Check.that("promise 55: replaces the earlier one", dock.save(), 2);
        dock.addShip(7, 7, 7);
        Check.that("promise 56: the later one", dock.restore(), 2);
        dock.addShip(7, 7, 7);
        dock.save();
        Check.that("promise 55: save leaves what can be undone", dock.undo(), 0);
        Check.that("promise 56: undo leaves the snapshot", dock.restore(), 3);
    }

    private static void saveEverything() {
        FloatingDock dock = Docks.withBlocks(1, 2, 30);
        Docks.addShips(dock, 10, 10);
        dock.enter(0, 0);
        dock.enter(1, 40);
        dock.setCleaning(1, true);
        Docks.drain(dock);
        dock.pay(1, 2);
        dock.save();
        String saved = Docks.picture(dock);
        String bill = Docks.bill(dock, 1);
        dock.pay(1, 1);
        dock.removeBlock(30);
        dock.setPump(30);
        dock.pass(4);
        dock.setGate(true);
        dock.setCleaning(1, false);
        dock.restore();
        Check.that("promise 56: everything", Docks.picture(dock), saved);
        Check.that("promise 56: the bill", Docks.bill(dock, 1), bill);
        Check.that("promise 56: the rate", dock.setPump(1), -30);
        Check.that("promise 56: cleaning", dock.setCleaning(1, true), true);
        Check.that("promise 56: consistent", dock.isConsistent(), true);
    }
}
