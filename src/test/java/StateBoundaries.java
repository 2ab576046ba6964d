import java.util.NoSuchElementException;

/** Promises 48 to 56, each sentence that names a boundary. */
final class StateBoundaries {

    private static final Class<?> STATE = IllegalStateException.class;
    private static final Class<?> MISSING = NoSuchElementException.class;
    private static final Class<?> INDEX = IndexOutOfBoundsException.class;

    private StateBoundaries() {
    }

    // promise 48

    private static void dockLine(String what, FloatingDock dock, String due) {
        Check.that(what + ", length", dock.describeDock(), 60);
        Check.that(what, Docks.line(dock), due);
    }

    static void promise48_anEmptyDock() {
        dockLine("new", new FloatingDock(), ".".repeat(60));
        dockLine("ships outside", Docks.withShips(10, 10), ".".repeat(60));
    }

    static void promise48_aFullDock() {
        FloatingDock dock = Docks.withShips(30, 30);
        dock.enter(1, 0);
        dock.enter(0, 30);
        dockLine("full", dock, "1".repeat(30) + "0".repeat(30));
    }

    static void promise48_theFirstAndTheLastPosition() {
        dockLine("blocks", Docks.withBlocks(0, 59), "^" + ".".repeat(58) + "^");
        FloatingDock dock = Docks.withShips(5, 5);
        dock.enter(0, 0);
        dock.enter(1, 55);
        dockLine("ships", dock, "00000" + ".".repeat(50) + "11111");
    }

    static void promise48_aShipHidesABlock() {
        FloatingDock dock = Docks.withBlocks(4, 5, 9, 10);
        Docks.addShips(dock, 5);
        dock.enter(0, 5);
        dockLine("over two of four", dock, "....^00000^" + ".".repeat(49));
    }

    static void promise48_theLastDigitOfTheId() {
        FloatingDock dock = new FloatingDock();
        for (int id = 0; id <= 21; id++) {
            Docks.addShips(dock, 5);
            dock.enter(id, 0);
            dockLine("id " + id, dock, ("" + id % 10).repeat(5) + ".".repeat(55));
            dock.leave(id);
            dock.removeShip(id);
        }
    }

    static void promise48_replacesThePreviousContent() {
        FloatingDock dock = Docks.withShips(10);
        dock.describeBill(0);
        dockLine("after a bill", dock, ".".repeat(60));
        dockLine("after itself", dock, ".".repeat(60));
    }

    // promise 49

    private static void bill(String what, FloatingDock dock, int ship, String due) {
        Check.that(what + ", length", dock.describeBill(ship), due.length());
        Check.that(what, Docks.line(dock), due);
    }

    static void promise49_noSuchShip() {
        FloatingDock dock = Docks.withShips(10);
        dock.describeBill(0);
        Check.beside(0, 0, MISSING, ship -> dock.describeBill(ship));
        Check.that("the line is left", Docks.line(dock), "#0:0/0");
        Check.fails("no ships", MISSING, () -> new FloatingDock().describeBill(0));
    }

    static void promise49_theExample() {
        FloatingDock dock = Docks.openAt(82);
        Docks.addShips(dock, 5, 5, 5);
        dock.addShip(10, 80, 50);
        dock.enter(3, 10);
        dock.setGate(false);
        dock.pass(10);
        dock.setPump(-3);
        dock.pass(2);
        bill("10 hours afloat, 2 at rest", dock, 3, "#3:24/50!2_");
    }

    static void promise49_damageIfItIsNot0() {
        FloatingDock dock = Docks.openAt(82);
        dock.addShip(10, 80, 7);
        dock.enter(0, 0);
        dock.setGate(false);
        bill("none", dock, 0, "#0:0/7~");
        dock.setPump(-3);
        dock.pass(1);
        bill("one", dock, 0, "#0:2/7!1_");
        dock.pass(9);
        bill("ten", dock, 0, "#0:20/7!10_");
    }

    static void promise49_afloatRestingOrOutside() {
        FloatingDock dock = Docks.openAt(82);
        dock.addShip(10, 80, 0);
        bill("outside", dock, 0, "#0:0/0");
        dock.enter(0, 0);
        bill("afloat", dock, 0, "#0:0/0~");
        dock.setGate(false);
        dock.setPump(-2);
        dock.pass(1);
        bill("just afloat", dock, 0, "#0:2/0~");
        dock.setPump(-1);
        dock.pass(1);
        bill("rests", dock, 0, "#0:4/0!1_");
    }

    static void promise49_damagedAndOutside() {
        FloatingDock dock = Docks.openAt(82);
        dock.addShip(10, 80, 0);
        dock.enter(0, 0);
        dock.setGate(false);
        dock.setPump(-3);
        dock.pass(1);
        dock.setPump(1);
        dock.pass(1);
        dock.setPump(0);
        Docks.openAtTide(dock);
        dock.pay(0, dock.billOf(0));
        dock.leave(0);
        bill("has left", dock, 0, "#0:0/0!1");
    }

    static void promise49_longNumbers() {
        FloatingDock dock = Docks.openAt(82);
        for (int id = 0; id < 10; id++) {
            dock.addShip(10, 80, 99);
            dock.removeShip(id);
        }
        dock.addShip(10, 80, 99);
        dock.enter(10, 0);
        dock.setGate(false);
        dock.setPump(-30);
        for (int i = 0; i < 11; i++) {
            dock.pass(48);
        }
        bill("528 hours", dock, 10, "#10:1056/99!528_");
    }

    static void promise49_replacesThePreviousContent() {
        FloatingDock dock = Docks.withShips(10);
        dock.describeDock();
        bill("after a dock", dock, 0, "#0:0/0");
        bill("after itself", dock, 0, "#0:0/0");
    }

    // promise 50

    static void promise50_initiallyEmpty() {
        FloatingDock dock = new FloatingDock();
        Check.range(0, -1, INDEX, index -> dock.lineAt(index));
    }

    static void promise50_noSuchIndex() {
        FloatingDock dock = Docks.withShips(10);
        dock.describeDock();
        Check.range(0, 59, INDEX, index -> dock.lineAt(index));
        dock.describeBill(0);
        Check.range(0, 5, INDEX, index -> dock.lineAt(index));
    }

    static void promise50_theFirstAndTheLastCharacter() {
        FloatingDock dock = Docks.withBlocks(59);
        Docks.addShips(dock, 5);
        dock.enter(0, 0);
        dock.describeDock();
        Check.that("the first", dock.lineAt(0), '0');
        Check.that("the last", dock.lineAt(59), '^');
        dock.describeBill(0);
        Check.that("the first of a bill", dock.lineAt(0), '#');
        Check.that("the last of a bill", dock.lineAt(6), '~');
    }

    // promises 51 to 53

    static void promise51_noShips() {
        FloatingDock dock = new FloatingDock();
        Check.fails("new", ArithmeticException.class, () -> dock.meanDirt());
        dock.addShip(5, 5, 50);
        Check.that("one", dock.meanDirt(), 50.0);
        dock.removeShip(0);
        Check.fails("removed", ArithmeticException.class, () -> dock.meanDirt());
    }

    static void promise51_bothConvertedToDouble() {
        FloatingDock dock = new FloatingDock();
        dock.addShip(5, 5, 0);
        Check.that("0", dock.meanDirt(), 0.0);
        dock.addShip(5, 5, 1);
        Check.that("1 of 2", dock.meanDirt(), 0.5);
        dock.addShip(5, 5, 0);
        Check.that("1 of 3", dock.meanDirt(), 1.0 / 3.0);
        dock.addShip(5, 5, 99);
        Check.that("100 of 4", dock.meanDirt(), 25.0);
    }

    static void promise51_eightShips() {
        FloatingDock dock = new FloatingDock();
        for (int dirt = 92; dirt <= 99; dirt++) {
            dock.addShip(5, 5, dirt);
        }
        Check.that("764 of 8", dock.meanDirt(), 95.5);
    }

    static void promise52_from0To1() {
        FloatingDock dock = Docks.withShips(30, 30);
        Check.that("none", dock.takenShare(), 0.0f);
        dock.enter(0, 0);
        Check.that("half", dock.takenShare(), 0.5f);
        dock.enter(1, 30);
        Check.that("all", dock.takenShare(), 1.0f);
    }

    static void promise52_bothConvertedToFloat() {
        for (int length = 5; length <= 30; length++) {
            FloatingDock dock = Docks.withShips(length);
            dock.enter(0, 0);
            Check.that("length " + length, dock.takenShare(), (float) length / (float) 60);
        }
    }

    static void promise53_holdsAtEachBoundary() {
        Check.that("new", new FloatingDock().isConsistent(), true);
        FloatingDock full = Docks.withShips(30, 30, 5);
        full.enter(0, 0);
        full.enter(1, 30);
        Check.that("full", full.isConsistent(), true);
        FloatingDock eight = Docks.withShips(5, 5, 5, 5, 5, 5, 5, 5);
        Check.that("eight outside", eight.isConsistent(), true);
        for (int ship = 0; ship < 8; ship++) {
            eight.enter(ship, 5 * ship);
            Check.that("eight", eight.isConsistent(), true);
        }
        FloatingDock blocks = Docks.withBlocks(0, 1, 2, 3, 4, 5, 6, 7, 8, 9, 10, 11, 12, 13, 14,
                15, 16, 17, 18, 59);
        Docks.addShips(blocks, 30);
        blocks.enter(0, 0);
        blocks.pass(48);
        blocks.pay(0, 1);
        Check.that("20 blocks", blocks.isConsistent(), true);
    }

    /** The 24 hours after 9975 end at 9999, those after 9976 where seaLevel() has no hour. */
    static void promise53_theLastHours() {
        for (int hour : new int[] {9974, 9975, 9976, 9998, 9999, 10000, 10001, 20000}) {
            Check.that("hour " + hour, Docks.atHour(hour).isConsistent(), true);
        }
    }

    /** Two ships side by side at 0 and 10, each on a block, with bills of 2 coins. */
    private static FloatingDock spoiled(String path, int number) {
        FloatingDock dock = Docks.withBlocks(3, 13);
        Docks.addShips(dock, 10, 10);
        dock.enter(0, 0);
        dock.enter(1, 10);
        dock.pass(1);
        Spoiler.put(dock, path, number);
        return dock;
    }

    static void promise53_falseIfTwoShipsOverlap() {
        String path = "now.ships.rows.1.position";
        Check.that("side by side", spoiled(path, 10).isConsistent(), true);
        Check.that("by a metre", spoiled(path, 9).isConsistent(), false);
        Check.that("wholly", spoiled(path, 0).isConsistent(), false);
    }

    static void promise53_falseIfTheBillsDiffer() {
        Check.that("4 charged", spoiled("now.charged", 4).isConsistent(), true);
        Check.that("5 charged", spoiled("now.charged", 5).isConsistent(), false);
        Check.that("3 charged", spoiled("now.charged", 3).isConsistent(), false);
        Check.that("1 paid", spoiled("now.paid", 1).isConsistent(), false);
        Check.that("another bill", spoiled("now.ships.rows.1.bill", 3).isConsistent(), false);
    }

    /** Two blocks at one position count twice block by block, but once metre by metre. */
    static void promise53_falseIfTheBlocksBeneathDiffer() {
        Check.that("beneath the last ship too",
                spoiled("now.blocks.positions.0", 13).isConsistent(), false);
        Check.that("beneath the first ship",
                spoiled("now.blocks.positions.1", 3).isConsistent(), false);
        Check.that("at two positions", spoiled("now.blocks.positions.1", 4).isConsistent(), true);
    }

    static void promise53_falseIfTheSeaDiffers() {
        Check.that("an hour before all tides", spoiled("now.hours", -1).isConsistent(), false);
        Check.that("the first hour", spoiled("now.hours", 0).isConsistent(), true);
    }

    // promises 54 to 56

    static void promise54_noChangeToUndo() {
        FloatingDock dock = new FloatingDock();
        Check.fails("new", STATE, () -> dock.undo());
        dock.setPump(1);
        Check.that("one", dock.undo(), 0);
        Check.fails("undone", STATE, () -> dock.undo());
    }

    static void promise54_from1To8Changes() {
        for (int changes = 0; changes <= 20; changes++) {
            FloatingDock dock = new FloatingDock();
            for (int rate = 1; rate <= changes; rate++) {
                dock.setPump(rate);
            }
            for (int left = Math.min(8, changes) - 1; left >= 0; left--) {
                Check.that(changes + " changes", dock.undo(), left);
            }
            Check.fails(changes + " changes, no more", STATE, () -> dock.undo());
            Check.that(changes + " changes, back at", dock.setPump(0), Math.max(0, changes - 8));
        }
    }

    static void promise54_theLatestThatHasNotBeenUndone() {
        FloatingDock dock = new FloatingDock();
        dock.setPump(1);
        dock.setPump(2);
        dock.setPump(3);
        Check.that("the third", dock.undo(), 2);
        Check.that("the second", dock.undo(), 1);
        dock.setPump(9);
        Check.that("the new one", dock.undo(), 1);
        Check.that("the first", dock.undo(), 0);
        Check.that("the rate", dock.setPump(0), 0);
    }

    static void promise54_eightAgainAfterUndoing() {
        FloatingDock dock = new FloatingDock();
        for (int rate = 1; rate <= 9; rate++) {
            dock.setPump(rate);
        }
        dock.undo();
        dock.undo();
        dock.undo();
        for (int rate = 11; rate <= 13; rate++) {
            dock.setPump(rate);
        }
        for (int left = 7; left >= 0; left--) {
            Check.that("left", dock.undo(), left);
        }
        Check.fails("no more", STATE, () -> dock.undo());
        Check.that("the rate of the first", dock.setPump(0), 1);
    }

    static void promise55_from0To8Ships() {
        FloatingDock dock = new FloatingDock();
        for (int count = 0; count <= 8; count++) {
            Check.that("saved", dock.save(), count);
            Check.outcome(() -> dock.addShip(5, 5, 5));
        }
    }

    static void promise55_replacesAnEarlierSnapshot() {
        FloatingDock dock = Docks.withShips(5, 6, 7);
        dock.save();
        dock.removeShip(1);
        Check.that("later", dock.save(), 2);
        dock.removeShip(0);
        Check.that("restored", dock.restore(), 2);
        Check.that("the second", dock.shipAt(1), 2);
    }

    static void promise55_leavesWhatCanBeUndone() {
        FloatingDock dock = Docks.withShips(5, 6, 7);
        dock.save();
        Check.that("undone", dock.undo(), 2);
    }

    static void promise56_noSnapshot() {
        FloatingDock dock = Docks.withShips(5);
        Check.fails("none", STATE, () -> dock.restore());
        dock.save();
        Check.that("one", dock.restore(), 1);
    }

    static void promise56_anEmptySnapshotIsOne() {
        FloatingDock dock = new FloatingDock();
        dock.save();
        Docks.addShips(dock, 5);
        Check.that("without ships", dock.restore(), 0);
        Check.that("count", dock.shipCount(), 0);
    }

    static void promise56_theSnapshotIsKept() {
        FloatingDock dock = Docks.withShips(5, 5);
        dock.save();
        for (int i = 0; i < 3; i++) {
            dock.removeShip(0);
            dock.setPump(20);
            dock.pass(7);
            Check.that("restored", dock.restore(), 2);
            Check.that("the first ship", dock.shipAt(0), 0);
            Check.that("hour", dock.hour(), 3);
            Check.that("rate", dock.setPump(9), 0);
        }
        dock.undo();
        Check.that("after undoing", dock.restore(), 2);
    }

    static void promise56_noChangeCanBeUndoneAfterIt() {
        FloatingDock dock = Docks.withShips(5, 5);
        dock.save();
        for (int rate = 1; rate <= 10; rate++) {
            dock.setPump(rate);
        }
        dock.restore();
        Check.fails("none", STATE, () -> dock.undo());
        dock.setPump(5);
        Check.that("one", dock.undo(), 0);
        Check.fails("none again", STATE, () -> dock.undo());
        Check.that("as restored", dock.setPump(0), 0);
    }
}
