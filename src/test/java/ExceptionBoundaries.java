import java.util.NoSuchElementException;

/** The term "Exceptions": what a call that throws leaves as it was. */
final class ExceptionBoundaries {

    private static final Class<?> ARGUMENT = IllegalArgumentException.class;
    private static final Class<?> STATE = IllegalStateException.class;
    private static final Class<?> MISSING = NoSuchElementException.class;
    private static final Class<?> INDEX = IndexOutOfBoundsException.class;
    private static final Class<?> UNSUPPORTED = UnsupportedOperationException.class;

    private ExceptionBoundaries() {
    }

    /** All that can be found out is as in a dock without the call, but for these parts. */
    private static void leavesAll(Whole.Maker maker, Class<?> due, Whole.Act act, String... but) {
        FloatingDock dock = maker.make();
        Check.fails("the call", due, () -> act.on(dock));
        Whole.same("after the call", () -> {
            FloatingDock other = maker.make();
            Check.outcome(() -> act.on(other));
            return other;
        }, maker, but);
    }

    /** Each part of a dock that a refused call could spoil is filled with something. */
    private static void fill(FloatingDock dock) {
        Docks.run(dock, "open;x");
        Docks.run(dock, "pump 0;pump 0;pass 0");
        dock.describeBill(0);
        dock.save();
        Docks.type(dock, "pump 7;pass");
    }

    /**
     * At the level 70 with the gate open: the ship 0 is afloat at 0 and is cleaned, the ship 1
     * rests at 10, the ships 2 and 3 are outside, the ship 4 is gone; there are 4 blocks.
     */
    private static FloatingDock open() {
        FloatingDock dock = Docks.withBlocks(0, 1, 12, 40);
        dock.addShip(10, 20, 50);
        dock.addShip(10, 80, 7);
        dock.addShip(5, 20, 3);
        dock.addShip(8, 80, 3);
        dock.addShip(5, 20, 1);
        dock.enter(0, 0);
        dock.enter(1, 10);
        Check.outcome(() -> dock.enter(2, 9));
        dock.setCleaning(0, true);
        fill(dock);
        dock.pass(1);
        dock.removeShip(4);
        return dock;
    }

    /** The same at the level 0 with the gate closed; both ships rest. */
    private static FloatingDock dry() {
        FloatingDock dock = open();
        Docks.drain(dock);
        return dock;
    }

    private static FloatingDock eightShips() {
        FloatingDock dock = Docks.withShips(5, 5, 5, 5, 5, 5, 5, 5);
        dock.enter(0, 0);
        fill(dock);
        dock.setPump(1);
        return dock;
    }

    private static FloatingDock twentyBlocks() {
        FloatingDock dock = Docks.empty();
        Docks.addShips(dock, 5);
        for (int position = 0; position < 20; position++) {
            dock.placeBlock(position);
        }
        fill(dock);
        dock.setPump(1);
        return dock;
    }

    private static FloatingDock anew() {
        return new FloatingDock();
    }

    static void termExceptions_theDocksAreAsTheTestsNeedThem() {
        Check.that("open", Docks.picture(open()),
                "4 true 70 11 50 0 4 4 #0 50 0 1 2 true0 #1 7 1 0 2 true10 #2 3 0 0 0 false"
                + " #3 3 0 0 0 false ^0 1 12 40 ");
        Check.that("dry", Docks.picture(dry()),
                "4 false 0 14 0 0 38 38 #0 44 0 2 30 true0 #1 7 4 0 8 true10 #2 3 0 0 0 false"
                + " #3 3 0 0 0 false ^0 1 12 40 ");
        Check.that("reason", open().refusalReason(), 2);
        Check.that("error position", open().errorPosition(), 5);
        Check.that("failed command", open().failedCommand(), 2);
        Check.that("snapshot", open().restore(), 5);
    }

    static void termExceptions_addShipChangesNothing() {
        leavesAll(ExceptionBoundaries::open, ARGUMENT, d -> d.addShip(4, 5, 0));
        leavesAll(ExceptionBoundaries::open, ARGUMENT, d -> d.addShip(5, 81, 0));
        leavesAll(ExceptionBoundaries::open, ARGUMENT, d -> d.addShip(5, 5, 100));
        leavesAll(ExceptionBoundaries::eightShips, STATE, d -> d.addShip(5, 5, 0));
    }

    static void termExceptions_removeShipChangesNothing() {
        leavesAll(ExceptionBoundaries::open, MISSING, d -> d.removeShip(4));
        leavesAll(ExceptionBoundaries::open, STATE, d -> d.removeShip(0));
        leavesAll(ExceptionBoundaries::eightShips, STATE, d -> d.removeShip(0));
        leavesAll(ExceptionBoundaries::anew, MISSING, d -> d.removeShip(0));
    }

    static void termExceptions_enterChangesNothing() {
        leavesAll(ExceptionBoundaries::open, MISSING, d -> d.enter(4, 50));
        leavesAll(ExceptionBoundaries::open, ARGUMENT, d -> d.enter(2, 56));
        leavesAll(ExceptionBoundaries::open, ARGUMENT, d -> d.enter(2, -1));
        leavesAll(ExceptionBoundaries::open, STATE, d -> d.enter(0, 50));
        leavesAll(ExceptionBoundaries::dry, STATE, d -> d.enter(2, 50));
    }

    static void termExceptions_enterRefusedKeepsTheReasonAlone() {
        leavesAll(ExceptionBoundaries::open, UNSUPPORTED, d -> d.enter(3, 30), "reason");
        leavesAll(ExceptionBoundaries::open, UNSUPPORTED, d -> d.enter(2, 19), "reason");
        FloatingDock dock = open();
        Check.outcome(() -> dock.enter(3, 30));
        Check.that("reason", dock.refusalReason(), 1);
    }

    static void termExceptions_leaveChangesNothing() {
        leavesAll(ExceptionBoundaries::open, MISSING, d -> d.leave(4));
        leavesAll(ExceptionBoundaries::open, STATE, d -> d.leave(2));
        leavesAll(ExceptionBoundaries::dry, STATE, d -> d.leave(0));
    }

    static void termExceptions_leaveRefusedKeepsTheReasonAlone() {
        leavesAll(ExceptionBoundaries::open, UNSUPPORTED, d -> d.leave(1), "reason");
        leavesAll(ExceptionBoundaries::open, UNSUPPORTED, d -> d.leave(0), "reason");
        FloatingDock dock = open();
        Check.outcome(() -> dock.leave(1));
        Check.that("rests", dock.refusalReason(), 3);
        Check.outcome(() -> dock.leave(0));
        Check.that("has a bill", dock.refusalReason(), 4);
    }

    static void termExceptions_setCleaningChangesNothing() {
        leavesAll(ExceptionBoundaries::open, MISSING, d -> d.setCleaning(4, true));
        leavesAll(ExceptionBoundaries::open, STATE, d -> d.setCleaning(2, true));
        leavesAll(ExceptionBoundaries::open, STATE, d -> d.setCleaning(2, false));
    }

    static void termExceptions_setGateChangesNothing() {
        leavesAll(ExceptionBoundaries::dry, UNSUPPORTED, d -> d.setGate(true));
    }

    static void termExceptions_setPumpChangesNothing() {
        leavesAll(ExceptionBoundaries::open, ARGUMENT, d -> d.setPump(31));
        leavesAll(ExceptionBoundaries::dry, ARGUMENT, d -> d.setPump(-31));
    }

    static void termExceptions_passChangesNothing() {
        leavesAll(ExceptionBoundaries::open, ARGUMENT, d -> d.pass(0));
        leavesAll(ExceptionBoundaries::dry, ARGUMENT, d -> d.pass(49));
    }

    static void termExceptions_placeBlockChangesNothing() {
        leavesAll(ExceptionBoundaries::dry, ARGUMENT, d -> d.placeBlock(60));
        leavesAll(ExceptionBoundaries::dry, STATE, d -> d.placeBlock(40));
        leavesAll(ExceptionBoundaries::twentyBlocks, STATE, d -> d.placeBlock(40));
        leavesAll(ExceptionBoundaries::dry, UNSUPPORTED, d -> d.placeBlock(5));
        leavesAll(ExceptionBoundaries::open, UNSUPPORTED, d -> d.placeBlock(50));
    }

    static void termExceptions_removeBlockChangesNothing() {
        leavesAll(ExceptionBoundaries::dry, ARGUMENT, d -> d.removeBlock(-1));
        leavesAll(ExceptionBoundaries::dry, MISSING, d -> d.removeBlock(41));
        leavesAll(ExceptionBoundaries::dry, UNSUPPORTED, d -> d.removeBlock(12));
        leavesAll(ExceptionBoundaries::open, UNSUPPORTED, d -> d.removeBlock(40));
    }

    static void termExceptions_payChangesNothing() {
        leavesAll(ExceptionBoundaries::open, MISSING, d -> d.pay(4, 1));
        leavesAll(ExceptionBoundaries::open, ARGUMENT, d -> d.pay(0, 0));
        leavesAll(ExceptionBoundaries::dry, ARGUMENT, d -> d.pay(0, 1000));
        leavesAll(ExceptionBoundaries::dry, STATE, d -> d.pay(0, 31));
    }

    static void termExceptions_appendChangesNothing() {
        leavesAll(ExceptionBoundaries::open, ARGUMENT, d -> d.append((char) 31));
        leavesAll(ExceptionBoundaries::open, ARGUMENT, d -> d.append((char) 127));
        leavesAll(() -> {
            FloatingDock dock = open();
            Docks.type(dock, "x".repeat(49));
            return dock;
        }, STATE, d -> d.append('x'));
    }

    static void termExceptions_runClearsTheTextAndSetsTheErrorPosition() {
        leavesAll(ExceptionBoundaries::open, ARGUMENT, d -> d.run(), "text", "error");
        FloatingDock dock = open();
        Check.outcome(() -> dock.run());
        Check.that("error position", dock.errorPosition(), 11);
        Check.that("the text is empty", dock.append('x'), 1);
    }

    /** The text is "pump 7;pass" and this: commands that succeed come ahead of the failing one. */
    private static FloatingDock runs(FloatingDock dock, String rest) {
        Docks.type(dock, rest);
        return dock;
    }

    static void termExceptions_runClearsTheTextAndSetsTheFailedCommand() {
        String[] open = {" 0", " 1;pump 31", " 1;pay 0+1;ship 5 5 5;enter 4@50", " 1;clean 2",
            " 1;pay 0+4;leave 1;leave 0", " 1;close;stop 0;pass 6;open",
            " 1;ship 5 5 5;enter 5@50;pay 1+99"};
        for (String rest : open) {
            leavesAll(() -> runs(open(), rest), STATE, d -> d.run(), "text", "failed", "reason");
        }
        String[] dry = {" 1;block 50;unblock 40;block 12", " 1;unblock 40;clean 1;stop 0;leave 9",
            " 9;stop 0;pay 0+10;pass 48;block 60"};
        for (String rest : dry) {
            leavesAll(() -> runs(dry(), rest), STATE, d -> d.run(), "text", "failed");
        }
        FloatingDock dock = runs(dry(), " 1;unblock 40;clean 1;stop 0;leave 9");
        Check.outcome(() -> dock.run());
        Check.that("failed command", dock.failedCommand(), 5);
        Check.that("the text is empty", dock.append('x'), 1);
    }

    static void termExceptions_runKeepsAReasonForARefusalAlone() {
        FloatingDock refused = runs(open(), " 12;pay 0+25;leave 0");
        Check.fails("has a bill still", STATE, () -> refused.run());
        Check.that("kept", refused.refusalReason(), 4);
        FloatingDock failed = runs(open(), " 12;leave 2");
        Check.fails("is outside", STATE, () -> failed.run());
        Check.that("the old one", failed.refusalReason(), 2);
    }

    static void termExceptions_undoAndRestoreChangeNothing() {
        leavesAll(ExceptionBoundaries::anew, STATE, d -> d.undo());
        leavesAll(ExceptionBoundaries::anew, STATE, d -> d.restore());
        Whole.Maker changed = () -> {
            FloatingDock dock = Docks.withShips(10);
            dock.enter(0, 0);
            dock.setCleaning(0, true);
            return dock;
        };
        leavesAll(changed, STATE, d -> d.restore());
        leavesAll(() -> {
            FloatingDock dock = changed.make();
            dock.save();
            dock.restore();
            return dock;
        }, STATE, d -> d.undo());
    }

    static void termExceptions_askingForShipsChangesNothing() {
        leavesAll(ExceptionBoundaries::open, INDEX, d -> d.shipAt(4));
        leavesAll(ExceptionBoundaries::open, INDEX, d -> d.shipAt(-1));
        leavesAll(ExceptionBoundaries::open, MISSING, d -> d.isInDock(4));
        leavesAll(ExceptionBoundaries::open, MISSING, d -> d.positionOf(4));
        leavesAll(ExceptionBoundaries::open, STATE, d -> d.positionOf(2));
        leavesAll(ExceptionBoundaries::open, MISSING, d -> d.dirtOf(4));
        leavesAll(ExceptionBoundaries::open, MISSING, d -> d.damageOf(4));
        leavesAll(ExceptionBoundaries::open, MISSING, d -> d.hoursAfloat(4));
        leavesAll(ExceptionBoundaries::open, MISSING, d -> d.isAfloat(4));
        leavesAll(ExceptionBoundaries::anew, MISSING, d -> d.refusalReason());
    }

    static void termExceptions_askingForWaterChangesNothing() {
        leavesAll(ExceptionBoundaries::open, ARGUMENT, d -> d.seaLevel(-1));
        leavesAll(ExceptionBoundaries::open, ARGUMENT, d -> d.seaLevelByHours(10000));
        leavesAll(ExceptionBoundaries::open, ARGUMENT, d -> d.levelAfter(97));
        leavesAll(ExceptionBoundaries::open, MISSING, d -> d.hoursUntilAfloat(4));
        leavesAll(ExceptionBoundaries::dry, STATE, d -> d.hoursUntilAfloat(1));
    }

    static void termExceptions_askingForBlocksAndGapsChangesNothing() {
        leavesAll(ExceptionBoundaries::open, ARGUMENT, d -> d.hasBlock(60));
        leavesAll(ExceptionBoundaries::open, MISSING, d -> d.blocksBeneath(4));
        leavesAll(ExceptionBoundaries::open, MISSING, d -> d.blocksBeneathByBlocks(4));
        leavesAll(ExceptionBoundaries::open, ARGUMENT, d -> d.shipAtPosition(60));
        leavesAll(ExceptionBoundaries::open, MISSING, d -> d.shipAtPosition(20));
        leavesAll(ExceptionBoundaries::open, ARGUMENT, d -> d.firstGap(0));
        leavesAll(ExceptionBoundaries::open, MISSING, d -> d.firstGap(41));
        leavesAll(ExceptionBoundaries::open, ARGUMENT, d -> d.firstGapByShips(61));
        leavesAll(ExceptionBoundaries::open, MISSING, d -> d.firstGapByShips(41));
    }

    static void termExceptions_askingForBillsAndTheLineChangesNothing() {
        leavesAll(ExceptionBoundaries::open, MISSING, d -> d.billOf(4));
        leavesAll(ExceptionBoundaries::open, INDEX, d -> d.shipAtRank(4));
        leavesAll(ExceptionBoundaries::anew, MISSING, d -> d.errorPosition());
        leavesAll(ExceptionBoundaries::anew, MISSING, d -> d.failedCommand());
        leavesAll(ExceptionBoundaries::open, MISSING, d -> d.describeBill(4));
        leavesAll(ExceptionBoundaries::open, INDEX, d -> d.lineAt(60));
        leavesAll(ExceptionBoundaries::anew, ArithmeticException.class, d -> d.meanDirt());
    }

    // the exception listed first

    static void termExceptions_theOneListedFirst() {
        FloatingDock dock = dry();
        Check.fails("enter: no ship, position, closed", MISSING, () -> dock.enter(9, -1));
        Check.fails("enter: position, in the dock, closed", ARGUMENT, () -> dock.enter(0, 60));
        Check.fails("enter: closed, shallow, overlap", STATE, () -> dock.enter(3, 0));
        Check.fails("leave: closed, rests, bill", STATE, () -> dock.leave(0));
        Check.fails("pay: no ship, coins", MISSING, () -> dock.pay(9, 0));
        Check.fails("pay: coins, bill", ARGUMENT, () -> dock.pay(0, 1000));
        Check.fails("placeBlock: block, ship", STATE, () -> dock.placeBlock(12));
        Check.fails("removeBlock: no block, ship", MISSING, () -> dock.removeBlock(5));
        Check.fails("shipAtPosition: position, no ship", ARGUMENT, () -> dock.shipAtPosition(60));
        Check.fails("firstGap: length, no gap", ARGUMENT, () -> dock.firstGap(61));
        Check.fails("firstGapByShips: length, no gap", ARGUMENT, () -> dock.firstGapByShips(61));
    }
}
