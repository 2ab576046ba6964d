import java.util.NoSuchElementException;

/** The terms from "The dock" to "Blocks", each sentence that names a boundary. */
final class TermBoundaries {

    private static final Class<?> ARGUMENT = IllegalArgumentException.class;
    private static final Class<?> STATE = IllegalStateException.class;
    private static final Class<?> MISSING = NoSuchElementException.class;
    private static final Class<?> UNSUPPORTED = UnsupportedOperationException.class;
    private static final int[] TIDE = {40, 60, 80, 100, 120, 140, 160, 140, 120, 100, 80, 60};

    private TermBoundaries() {
    }

    // the dock

    static void termDock_60Metres() {
        FloatingDock dock = new FloatingDock();
        Check.that("free", dock.freeMetres(), 60);
        Check.that("line", dock.describeDock(), 60);
        Check.that("the longest gap", dock.firstGap(60), 0);
        Check.fails("a longer gap", ARGUMENT, () -> dock.firstGap(61));
    }

    static void termDock_positionsFrom0To59() {
        FloatingDock dock = Docks.atLevel(0);
        Check.fails("-1", ARGUMENT, () -> dock.placeBlock(-1));
        Check.that("0", dock.placeBlock(0), 1);
        Check.that("59", dock.placeBlock(59), 2);
        Check.fails("60", ARGUMENT, () -> dock.placeBlock(60));
        FloatingDock ships = Docks.withShips(5, 5);
        Check.fails("a ship at -1", ARGUMENT, () -> ships.enter(0, -1));
        Check.that("a ship at 0", ships.enter(0, 0), 1);
        Check.fails("a ship up to 60", ARGUMENT, () -> ships.enter(1, 56));
        Check.that("a ship up to 59", ships.enter(1, 55), 2);
    }

    static void termDock_levelInitially100() {
        Check.that("level", new FloatingDock().level(), 100);
    }

    static void termDock_gateInitiallyOpen() {
        Check.that("open", new FloatingDock().isGateOpen(), true);
        Check.that("open before", new FloatingDock().setGate(false), true);
    }

    static void termDock_rateInitially0() {
        Check.that("rate", new FloatingDock().setPump(9), 0);
        FloatingDock dock = new FloatingDock();
        dock.setGate(false);
        dock.pass(1);
        Check.that("level", dock.level(), 100);
    }

    // the sea

    static void termSea_hourModulo12() {
        FloatingDock dock = new FloatingDock();
        for (int hour : new int[] {0, 12, 24, 36, 9984, 9996}) {
            Check.that("a tide begins at " + hour, dock.seaLevel(hour), 40);
            Check.that("and goes on", dock.seaLevel(hour + 1), 60);
        }
        for (int hour : new int[] {11, 23, 35, 9983, 9995}) {
            Check.that("a tide ends at " + hour, dock.seaLevel(hour), 60);
            Check.that("by hours", dock.seaLevelByHours(hour), 60);
        }
    }

    static void termSea_kAtMost6() {
        FloatingDock dock = new FloatingDock();
        Check.that("k is 5", dock.seaLevel(5), 140);
        Check.that("k is 6", dock.seaLevel(6), 160);
        Check.that("k is 7", dock.seaLevel(7), 140);
        Check.that("k is 5, by hours", dock.seaLevelByHours(5), 140);
        Check.that("k is 6, by hours", dock.seaLevelByHours(6), 160);
        Check.that("k is 7, by hours", dock.seaLevelByHours(7), 140);
    }

    static void termSea_hoursInitially3() {
        Check.that("hour", new FloatingDock().hour(), 3);
        Check.that("the sea in the next hour", new FloatingDock().levelAfter(1), 120);
    }

    /** An open dock follows the sea over two tides and more. */
    static void termSea_theTideInAnOpenDock() {
        FloatingDock dock = new FloatingDock();
        for (int hour = 4; hour < 60; hour++) {
            dock.pass(1);
            Check.that("hour " + hour, dock.level(), TIDE[hour % 12]);
        }
    }

    // ships

    static void termShips_atMost8() {
        FloatingDock dock = Docks.withShips(5, 5, 5, 5, 5, 5, 5);
        Check.that("seven", dock.shipCount(), 7);
        Check.that("the eighth", dock.addShip(5, 5, 5), 7);
        Check.fails("the ninth", STATE, () -> dock.addShip(5, 5, 5));
        Check.that("eight", dock.shipCount(), 8);
    }

    static void termShips_theFirstIdIs0AndEachOtherIs1Greater() {
        FloatingDock dock = new FloatingDock();
        for (int id = 0; id < 8; id++) {
            Check.that("id", dock.addShip(5, 5, 5), id);
        }
    }

    static void termShips_idsAreNotGivenAgain() {
        FloatingDock dock = new FloatingDock();
        for (int id = 0; id < 100; id++) {
            Check.that("id", dock.addShip(5, 5, 5), id);
            dock.removeShip(id);
        }
        Check.fails("a removed one", MISSING, () -> dock.dirtOf(99));
    }

    static void termShips_takesAsManyPositionsAsItsLength() {
        for (int length = 5; length <= 30; length++) {
            FloatingDock dock = Docks.withShips(length);
            dock.enter(0, 7);
            dock.describeDock();
            Check.that("length " + length, Docks.line(dock),
                    ".".repeat(7) + "0".repeat(length) + ".".repeat(53 - length));
            Check.that("length " + length + ", free", dock.freeMetres(), 60 - length);
        }
    }

    /** A ship of 10 at 20, and another of 10 at each position. */
    static void termShips_noTwoOverlap() {
        for (int position = 0; position <= 50; position++) {
            FloatingDock dock = Docks.withShips(10, 10);
            dock.enter(0, 20);
            int at = position;
            Object due = at > 10 && at < 30 ? Check.thrown(UNSUPPORTED) : 2;
            Check.that("at " + at, Check.outcome(() -> dock.enter(1, at)), due);
        }
    }

    static void termShips_aShorterOneWithinALongerOne() {
        for (int position = 0; position <= 55; position++) {
            FloatingDock dock = Docks.withShips(30, 5);
            dock.enter(0, 15);
            int at = position;
            Object due = at > 10 && at < 45 ? Check.thrown(UNSUPPORTED) : 2;
            Check.that("at " + at, Check.outcome(() -> dock.enter(1, at)), due);
        }
        for (int position = 0; position <= 30; position++) {
            FloatingDock dock = Docks.withShips(30, 5);
            dock.enter(1, 15);
            int at = position;
            Object due = at < 20 ? Check.thrown(UNSUPPORTED) : 2;
            Check.that("over it at " + at, Check.outcome(() -> dock.enter(0, at)), due);
        }
    }

    static void termShips_afloatIfTheLevelIsAtLeastTheDraught() {
        for (int draught : new int[] {5, 6, 40, 79, 80}) {
            FloatingDock dock = Docks.openAt(100);
            dock.addShip(10, draught, 0);
            dock.enter(0, 0);
            dock.setGate(false);
            Docks.pumpTo(dock, draught + 1);
            Check.that("1 more than " + draught, dock.isAfloat(0), true);
            Docks.pumpTo(dock, draught);
            Check.that("just " + draught, dock.isAfloat(0), true);
            Docks.pumpTo(dock, draught - 1);
            Check.that("1 less than " + draught, dock.isAfloat(0), false);
            Docks.pumpTo(dock, 0);
            Check.that("no water", dock.isAfloat(0), false);
        }
    }

    static void termShips_notCleanedWhenItEnters() {
        FloatingDock dock = Docks.withShips(10);
        dock.enter(0, 0);
        Check.that("for the first time", dock.setCleaning(0, true), false);
        dock.leave(0);
        dock.enter(0, 0);
        Check.that("again", dock.setCleaning(0, true), false);
    }

    /** On two blocks with a dirt of 4: 3 are removed, then 1, then nothing. */
    static void termShips_cleaningGoesOnUntilStopped() {
        FloatingDock dock = Docks.withBlocks(0, 1);
        dock.addShip(10, 80, 4);
        dock.enter(0, 0);
        dock.setCleaning(0, true);
        dock.setGate(false);
        Docks.pumpTo(dock, 0);
        Check.that("dirt", dock.dirtOf(0), 0);
        dock.pass(48);
        Check.that("without dirt it goes on", dock.setCleaning(0, false), true);
        Check.that("stopped", dock.setCleaning(0, false), false);
    }

    // entering

    static void termEntering_reason1IfTheLevelIsLessThanTheDraughtPlus2() {
        for (int draught : new int[] {18, 40, 79, 80}) {
            FloatingDock enough = Docks.openAt(draught + 2);
            enough.addShip(10, draught, 0);
            Check.that("draught " + draught, enough.enter(0, 0), 1);
            FloatingDock more = Docks.openAt(draught + 3);
            more.addShip(10, draught, 0);
            Check.that("draught " + draught + ", 1 more", more.enter(0, 0), 1);
            for (int lacking = 1; lacking <= 2 && draught > 20; lacking++) {
                FloatingDock less = Docks.openAt(draught + 2 - lacking);
                less.addShip(10, draught, 0);
                Check.fails("draught " + draught + ", lacking " + lacking, UNSUPPORTED,
                        () -> less.enter(0, 0));
                Check.that("reason", less.refusalReason(), 1);
            }
        }
    }

    static void termEntering_reason2IfItWouldOverlap() {
        FloatingDock dock = Docks.withShips(10, 10, 10);
        dock.enter(0, 20);
        Check.fails("its first metre", UNSUPPORTED, () -> dock.enter(1, 11));
        Check.that("reason at its first", dock.refusalReason(), 2);
        Check.that("just before it", dock.enter(1, 10), 2);
        Check.fails("its last metre", UNSUPPORTED, () -> dock.enter(2, 29));
        Check.that("just behind it", dock.enter(2, 30), 3);
    }

    static void termEntering_theFirstReasonThatApplies() {
        FloatingDock dock = Docks.openAt(61);
        dock.addShip(10, 20, 0);
        dock.addShip(10, 60, 0);
        dock.enter(0, 0);
        Check.fails("shallow and overlapping", UNSUPPORTED, () -> dock.enter(1, 0));
        Check.that("1 is before 2", dock.refusalReason(), 1);
    }

    // leaving

    private static FloatingDock withDraught80() {
        FloatingDock dock = Docks.openAt(82);
        dock.addShip(10, 80, 0);
        dock.enter(0, 0);
        dock.setGate(false);
        return dock;
    }

    /** The ship rests; the gate is open at this level. */
    private static FloatingDock loweredTo(int level) {
        FloatingDock dock = withDraught80();
        Docks.pumpTo(dock, level);
        Docks.openAtTide(dock);
        return dock;
    }

    static void termLeaving_reason3IfItIsNotAfloat() {
        for (int level : new int[] {60, 78, 79, 80, 81}) {
            FloatingDock dock = loweredTo(level);
            dock.pay(0, dock.billOf(0));
            Check.that("level " + level, Check.outcome(() -> dock.leave(0)),
                    level >= 80 ? 0 : Check.thrown(UNSUPPORTED));
            Check.that("level " + level + ", reason", Check.outcome(() -> dock.refusalReason()),
                    level >= 80 ? Check.thrown(MISSING) : 3);
        }
    }

    static void termLeaving_reason4IfItsBillIsNot0() {
        FloatingDock dock = Docks.withShips(10);
        dock.enter(0, 0);
        dock.pass(1);
        Check.fails("2 coins", UNSUPPORTED, () -> dock.leave(0));
        dock.pay(0, 1);
        Check.fails("1 coin", UNSUPPORTED, () -> dock.leave(0));
        Check.that("reason", dock.refusalReason(), 4);
        dock.pay(0, 1);
        Check.that("no coin", dock.leave(0), 0);
    }

    static void termLeaving_theFirstReasonThatApplies() {
        FloatingDock dock = loweredTo(79);
        Check.that("has a bill", dock.billOf(0) > 0, true);
        Check.fails("rests, has a bill", UNSUPPORTED, () -> dock.leave(0));
        Check.that("3 is before 4", dock.refusalReason(), 3);
    }

    static void termLeaving_isOutsideAndNotCleanedAnyLonger() {
        FloatingDock dock = Docks.withShips(10);
        dock.enter(0, 0);
        dock.setCleaning(0, true);
        dock.leave(0);
        Check.that("in the dock", dock.isInDock(0), false);
        Check.that("afloat", dock.isAfloat(0), true);
        dock.enter(0, 0);
        Check.that("cleaned", dock.setCleaning(0, false), false);
    }

    // blocks

    static void termBlocks_atMost20() {
        FloatingDock dock = Docks.atLevel(0);
        for (int count = 1; count <= 20; count++) {
            Check.that("count", dock.placeBlock(3 * count - 3), count);
        }
        for (int position = 0; position < 60; position++) {
            int at = position;
            Check.fails("one more at " + at, STATE, () -> dock.placeBlock(at));
        }
    }

    static void termBlocks_noTwoAtOnePosition() {
        for (int position : new int[] {0, 30, 59}) {
            FloatingDock dock = Docks.atLevel(0);
            dock.placeBlock(position);
            Check.fails("at " + position, STATE, () -> dock.placeBlock(position));
            Check.that("taken away", dock.removeBlock(position), 0);
            Check.that("none is left", dock.hasBlock(position), false);
        }
    }
}
