import java.util.NoSuchElementException;

/** Promises 26 to 37, each sentence that names a boundary. */
final class BlockBoundaries {

    private static final Class<?> ARGUMENT = IllegalArgumentException.class;
    private static final Class<?> STATE = IllegalStateException.class;
    private static final Class<?> MISSING = NoSuchElementException.class;
    private static final Class<?> UNSUPPORTED = UnsupportedOperationException.class;

    private BlockBoundaries() {
    }

    /** With blocks at 0 to 19. */
    private static FloatingDock twentyBlocks() {
        FloatingDock dock = Docks.atLevel(0);
        for (int position = 0; position < 20; position++) {
            dock.placeBlock(position);
        }
        return dock;
    }

    /** At the level 0, with a ship at 20 to 29 and blocks at 19, 20, 29 and 30. */
    private static FloatingDock shipOnBlocks() {
        FloatingDock dock = Docks.withBlocks(19, 20, 29, 30);
        Docks.addShips(dock, 10);
        dock.enter(0, 20);
        Docks.drain(dock);
        return dock;
    }

    // promise 26

    static void promise26_positionFrom0To59() {
        Check.range(0, 59, ARGUMENT, position -> Docks.atLevel(0).placeBlock(position));
    }

    static void promise26_notIfThereAre20Blocks() {
        FloatingDock dock = Docks.atLevel(0);
        for (int count = 1; count <= 20; count++) {
            Check.that("block " + count, dock.placeBlock(60 - count), count);
        }
        Check.fails("the 21st", STATE, () -> dock.placeBlock(0));
        dock.removeBlock(50);
        Check.that("after a removal", dock.placeBlock(0), 20);
        Check.fails("the 21st again", STATE, () -> dock.placeBlock(50));
    }

    static void promise26_notIfABlockIsAtThePosition() {
        FloatingDock dock = Docks.atLevel(0);
        dock.placeBlock(30);
        Check.fails("there", STATE, () -> dock.placeBlock(30));
        Check.that("on its left", dock.placeBlock(29), 2);
        Check.that("on its right", dock.placeBlock(31), 3);
        Check.fails("there still", STATE, () -> dock.placeBlock(30));
        dock.removeBlock(30);
        Check.that("after the removal", dock.placeBlock(30), 3);
    }

    static void promise26_notIfTheLevelIsGreaterThan30() {
        Check.that("0", Docks.atLevel(0).placeBlock(5), 1);
        Check.that("29", Docks.atLevel(29).placeBlock(5), 1);
        Check.that("30", Docks.atLevel(30).placeBlock(5), 1);
        Check.fails("31", UNSUPPORTED, () -> Docks.atLevel(31).placeBlock(5));
        Check.fails("32", UNSUPPORTED, () -> Docks.atLevel(32).placeBlock(5));
        Check.fails("200", UNSUPPORTED, () -> Docks.atLevel(200).placeBlock(5));
    }

    static void promise26_notIfAShipIsAtThePosition() {
        FloatingDock dock = shipOnBlocks();
        Check.fails("its second metre", UNSUPPORTED, () -> dock.placeBlock(21));
        Check.fails("its last but one", UNSUPPORTED, () -> dock.placeBlock(28));
        Check.that("beside", dock.placeBlock(18), 5);
        Check.that("beside on the right", dock.placeBlock(31), 6);
        FloatingDock bare = Docks.withBlocks();
        Docks.addShips(bare, 10);
        bare.enter(0, 20);
        Docks.drain(bare);
        Check.fails("its first metre", UNSUPPORTED, () -> bare.placeBlock(20));
        Check.fails("its last metre", UNSUPPORTED, () -> bare.placeBlock(29));
        Check.that("just before it", bare.placeBlock(19), 1);
        Check.that("just behind it", bare.placeBlock(30), 2);
    }

    static void promise26_orderOfExceptions() {
        FloatingDock full = twentyBlocks();
        Check.fails("position, 20 blocks", ARGUMENT, () -> full.placeBlock(60));
        Docks.pumpTo(full, 31);
        Check.fails("position, level", ARGUMENT, () -> full.placeBlock(-1));
        Check.fails("20 blocks, level", STATE, () -> full.placeBlock(40));
        Check.fails("a block there, level", STATE, () -> full.placeBlock(0));
        FloatingDock dock = shipOnBlocks();
        Check.fails("a block and a ship there", STATE, () -> dock.placeBlock(20));
        for (int position = 0; position < 16; position++) {
            dock.placeBlock(position);
        }
        Check.fails("20 blocks, a ship there", STATE, () -> dock.placeBlock(25));
        Check.fails("no reason is kept", MISSING, () -> dock.refusalReason());
    }

    // promise 27

    static void promise27_positionFrom0To59() {
        Check.range(0, 59, ARGUMENT, position -> {
            FloatingDock dock = Docks.atLevel(0);
            Check.outcome(() -> dock.placeBlock(position));
            return dock.removeBlock(position);
        });
    }

    static void promise27_noBlockAtThePosition() {
        FloatingDock none = Docks.atLevel(0);
        Check.fails("none at all", MISSING, () -> none.removeBlock(0));
        FloatingDock dock = twentyBlocks();
        Check.fails("beside the last", MISSING, () -> dock.removeBlock(20));
        Check.that("the last", dock.removeBlock(19), 19);
        Check.fails("taken away", MISSING, () -> dock.removeBlock(19));
        Check.that("the first", dock.removeBlock(0), 18);
    }

    static void promise27_downToNoBlock() {
        FloatingDock dock = twentyBlocks();
        for (int left = 19; left >= 0; left--) {
            Check.that("left", dock.removeBlock(left), left);
        }
    }

    static void promise27_notIfTheLevelIsGreaterThan30() {
        int[] levels = {0, 29, 30, 31, 32, 200};
        for (int level : levels) {
            FloatingDock dock = Docks.atLevel(0);
            dock.placeBlock(5);
            Docks.pumpTo(dock, level);
            Check.that("level " + level, Check.outcome(() -> dock.removeBlock(5)),
                    level <= 30 ? 0 : Check.thrown(UNSUPPORTED));
        }
    }

    static void promise27_notIfAShipIsAtThePosition() {
        FloatingDock dock = shipOnBlocks();
        Check.fails("its first metre", UNSUPPORTED, () -> dock.removeBlock(20));
        Check.fails("its last metre", UNSUPPORTED, () -> dock.removeBlock(29));
        Check.that("just before it", dock.removeBlock(19), 3);
        Check.that("just behind it", dock.removeBlock(30), 2);
    }

    static void promise27_orderOfExceptions() {
        FloatingDock dock = shipOnBlocks();
        Check.fails("no block, a ship there", MISSING, () -> dock.removeBlock(25));
        Docks.pumpTo(dock, 31);
        Check.fails("position, level", ARGUMENT, () -> dock.removeBlock(60));
        Check.fails("no block, level", MISSING, () -> dock.removeBlock(40));
        Check.fails("position, no block", ARGUMENT, () -> dock.removeBlock(-1));
        Check.fails("no reason is kept", MISSING, () -> dock.refusalReason());
    }

    // promises 28 to 31

    static void promise28_positionFrom0To59() {
        FloatingDock dock = new FloatingDock();
        Check.range(0, 59, ARGUMENT, position -> dock.hasBlock(position));
    }

    static void promise28_theFirstAndTheLastPosition() {
        FloatingDock dock = Docks.withBlocks(0, 59);
        for (int position = 0; position < 60; position++) {
            Check.that("at " + position, dock.hasBlock(position), position % 59 == 0);
        }
    }

    private static void beneath(String what, FloatingDock dock, int ship, int due) {
        Check.that(what, dock.blocksBeneath(ship), due);
        Check.that(what + ", by blocks", dock.blocksBeneathByBlocks(ship), due);
    }

    static void promise29_noSuchShip() {
        FloatingDock dock = shipOnBlocks();
        Check.beside(0, 0, MISSING, ship -> dock.blocksBeneath(ship));
        Check.fails("no ships", MISSING, () -> new FloatingDock().blocksBeneath(0));
    }

    static void promise29_0OutsideTheDock() {
        FloatingDock dock = Docks.withBlocks(0, 1, 2);
        Docks.addShips(dock, 10);
        beneath("never entered", dock, 0, 0);
        dock.enter(0, 0);
        beneath("in the dock", dock, 0, 3);
        dock.leave(0);
        beneath("has left", dock, 0, 0);
    }

    static void promise29_fromItsFirstToItsLastMetre() {
        for (int block = 18; block <= 31; block++) {
            FloatingDock dock = Docks.withBlocks(block);
            Docks.addShips(dock, 10);
            dock.enter(0, 20);
            beneath("block at " + block, dock, 0, block >= 20 && block <= 29 ? 1 : 0);
        }
    }

    static void promise29_noBlocksAtAll() {
        FloatingDock dock = Docks.withShips(30);
        dock.enter(0, 0);
        beneath("none", dock, 0, 0);
    }

    static void promise29_all20Blocks() {
        FloatingDock dock = twentyBlocks();
        Docks.pumpTo(dock, 60);
        Docks.openAtTide(dock);
        Docks.addShips(dock, 20, 30);
        dock.enter(0, 0);
        beneath("20 metres", dock, 0, 20);
        beneath("outside", dock, 1, 0);
        dock.leave(0);
        dock.enter(0, 1);
        beneath("from 1 on", dock, 0, 19);
        dock.leave(0);
        dock.enter(1, 0);
        beneath("30 metres", dock, 1, 20);
    }

    static void promise30_noSuchShip() {
        FloatingDock dock = shipOnBlocks();
        Check.beside(0, 0, MISSING, ship -> dock.blocksBeneathByBlocks(ship));
        Check.fails("no ships", MISSING, () -> new FloatingDock().blocksBeneathByBlocks(0));
    }

    static void promise30_0OutsideTheDock() {
        FloatingDock dock = Docks.withBlocks(0, 1, 2);
        Docks.addShips(dock, 10);
        Check.that("never entered", dock.blocksBeneathByBlocks(0), 0);
        dock.enter(0, 0);
        dock.leave(0);
        Check.that("has left", dock.blocksBeneathByBlocks(0), 0);
    }

    static void promise30_fromItsFirstToItsLastMetre() {
        for (int block = 18; block <= 31; block++) {
            FloatingDock dock = Docks.withBlocks(block);
            Docks.addShips(dock, 10);
            dock.enter(0, 20);
            Check.that("block at " + block, dock.blocksBeneathByBlocks(0),
                    block >= 20 && block <= 29 ? 1 : 0);
        }
    }

    static void promise30_sameAsBlocksBeneathAtEachPosition() {
        for (int position = 0; position <= 50; position++) {
            FloatingDock dock = Docks.withBlocks(0, 9, 10, 11, 19, 30, 31, 40, 50, 58, 59);
            Docks.addShips(dock, 10);
            dock.enter(0, position);
            int due = 0;
            for (int metre = position; metre < position + 10; metre++) {
                due += dock.hasBlock(metre) ? 1 : 0;
            }
            beneath("at " + position, dock, 0, due);
        }
    }

    static void promise31_positionFrom0To59() {
        FloatingDock dock = Docks.withShips(30, 30);
        dock.enter(0, 0);
        dock.enter(1, 30);
        Check.range(0, 59, ARGUMENT, position -> dock.shipAtPosition(position));
    }

    static void promise31_fromItsFirstToItsLastMetre() {
        FloatingDock dock = Docks.withShips(5, 10, 7);
        dock.enter(0, 0);
        dock.enter(1, 20);
        dock.enter(2, 53);
        for (int position = 0; position < 60; position++) {
            int at = position;
            Object due = position <= 4 ? 0 : position >= 20 && position <= 29 ? 1
                    : position >= 53 ? 2 : Check.thrown(MISSING);
            Check.that("at " + at, Check.outcome(() -> dock.shipAtPosition(at)), due);
        }
    }

    static void promise31_noShipIsThere() {
        FloatingDock dock = new FloatingDock();
        Check.fails("no ships", MISSING, () -> dock.shipAtPosition(0));
        Docks.addShips(dock, 10);
        Check.fails("none in the dock", MISSING, () -> dock.shipAtPosition(0));
        dock.enter(0, 0);
        Check.that("in the dock", dock.shipAtPosition(0), 0);
        dock.leave(0);
        Check.fails("has left", MISSING, () -> dock.shipAtPosition(0));
    }

    static void promise31_orderOfExceptions() {
        FloatingDock dock = new FloatingDock();
        Check.fails("position, no ship", ARGUMENT, () -> dock.shipAtPosition(60));
        Check.fails("negative, no ship", ARGUMENT, () -> dock.shipAtPosition(-1));
    }

    // promises 32 to 34

    private static void gap(FloatingDock dock, int length, Object due) {
        Check.that("length " + length, Check.outcome(() -> dock.firstGap(length)), due);
        Check.that("length " + length + ", by ships",
                Check.outcome(() -> dock.firstGapByShips(length)), due);
    }

    private static void noGap(FloatingDock dock, int length) {
        gap(dock, length, Check.thrown(MISSING));
    }

    static void promise32_lengthFrom1To60() {
        FloatingDock dock = new FloatingDock();
        Check.range(1, 60, ARGUMENT, length -> dock.firstGap(length));
    }

    static void promise32_noSuchPosition() {
        FloatingDock dock = Docks.withShips(10);
        gap(dock, 60, 0);
        dock.enter(0, 50);
        gap(dock, 50, 0);
        noGap(dock, 51);
        noGap(dock, 60);
    }

    static void promise32_theLowestPosition() {
        FloatingDock dock = Docks.withShips(10, 10);
        dock.enter(0, 5);
        dock.enter(1, 35);
        gap(dock, 1, 0);
        gap(dock, 5, 0);
        gap(dock, 6, 15);
        gap(dock, 20, 15);
        noGap(dock, 21);
    }

    /** The last position at which a gap can be is 59. */
    static void promise32_theLastPosition() {
        FloatingDock dock = Docks.withShips(30, 29);
        dock.enter(0, 0);
        dock.enter(1, 30);
        gap(dock, 1, 59);
        noGap(dock, 2);
    }

    static void promise32_aFullDock() {
        FloatingDock dock = Docks.withShips(30, 30);
        dock.enter(0, 0);
        dock.enter(1, 30);
        noGap(dock, 1);
        noGap(dock, 60);
    }

    static void promise32_orderOfExceptions() {
        FloatingDock dock = Docks.withShips(30, 30);
        dock.enter(0, 0);
        dock.enter(1, 30);
        gap(dock, 0, Check.thrown(ARGUMENT));
        gap(dock, 61, Check.thrown(ARGUMENT));
    }

    static void promise33_lengthFrom1To60() {
        FloatingDock dock = new FloatingDock();
        Check.range(1, 60, ARGUMENT, length -> dock.firstGapByShips(length));
    }

    static void promise33_noSuchPosition() {
        FloatingDock dock = Docks.withShips(10);
        Check.that("60", dock.firstGapByShips(60), 0);
        dock.enter(0, 50);
        Check.that("50", dock.firstGapByShips(50), 0);
        Check.fails("51", MISSING, () -> dock.firstGapByShips(51));
        dock.leave(0);
        dock.enter(0, 0);
        Check.that("50 behind it", dock.firstGapByShips(50), 10);
        Check.fails("51 behind it", MISSING, () -> dock.firstGapByShips(51));
    }

    static void promise33_theLastPosition() {
        FloatingDock dock = Docks.withShips(30, 29);
        dock.enter(0, 0);
        dock.enter(1, 30);
        Check.that("1", dock.firstGapByShips(1), 59);
        Check.fails("2", MISSING, () -> dock.firstGapByShips(2));
    }

    static void promise33_orderOfExceptions() {
        FloatingDock dock = Docks.withShips(30, 30);
        dock.enter(0, 0);
        dock.enter(1, 30);
        Check.fails("0", ARGUMENT, () -> dock.firstGapByShips(0));
        Check.fails("1", MISSING, () -> dock.firstGapByShips(1));
        Check.fails("60", MISSING, () -> dock.firstGapByShips(60));
        Check.fails("61", ARGUMENT, () -> dock.firstGapByShips(61));
    }

    /** The ships lie in the dock in another order than that of their ids. */
    static void promise33_sameAsFirstGapWithEightShips() {
        FloatingDock dock = Docks.withShips(5, 5, 5, 5, 5, 5, 5, 5);
        int[] positions = {55, 0, 37, 6, 29, 13, 45, 21};
        for (int ship = 0; ship < 8; ship++) {
            dock.enter(ship, positions[ship]);
        }
        gap(dock, 1, 5);
        gap(dock, 2, 11);
        gap(dock, 3, 18);
        gap(dock, 4, 50);
        gap(dock, 5, 50);
        noGap(dock, 6);
    }

    static void promise34_from0To60() {
        FloatingDock dock = Docks.withShips(30, 30);
        Check.that("all", dock.freeMetres(), 60);
        dock.enter(0, 0);
        Check.that("half", dock.freeMetres(), 30);
        dock.enter(1, 30);
        Check.that("none", dock.freeMetres(), 0);
        dock.leave(0);
        Check.that("half again", dock.freeMetres(), 30);
    }

    static void promise34_eightShips() {
        FloatingDock dock = Docks.withShips(5, 6, 7, 8, 5, 6, 7, 8);
        int free = 60;
        for (int ship = 0; ship < 8; ship++) {
            Check.that(ship + " in the dock", dock.freeMetres(), free);
            dock.enter(ship, 60 - free);
            free -= 5 + ship % 4;
        }
        Check.that("8 in the dock", dock.freeMetres(), 8);
    }

    // promises 35 to 37

    private static void fitting(String what, FloatingDock dock, int ships, int metres) {
        Check.that(what, dock.mostFitting(), ships);
        Check.that(what + ", by table", dock.mostFittingByTable(), ships);
        Check.that(what + ", metres", dock.mostFittingMetres(), metres);
    }

    static void promise35_noShips() {
        Check.that("none", new FloatingDock().mostFitting(), 0);
    }

    static void promise35_draughtAtMostTheLevelMinus2() {
        for (int draught : new int[] {5, 40, 80}) {
            FloatingDock dock = Docks.atLevel(draught + 2);
            dock.addShip(10, draught, 0);
            fitting("draught " + draught, dock, 1, 10);
            dock.setPump(-1);
            dock.pass(1);
            fitting("draught " + draught + ", 1 less", dock, 0, 0);
            dock.pass(1);
            fitting("draught " + draught + ", 2 less", dock, 0, 0);
        }
    }

    static void promise35_aShipInTheDockDoesNotWait() {
        FloatingDock dock = Docks.withShips(10, 20);
        fitting("both outside", dock, 2, 30);
        dock.enter(0, 0);
        fitting("one inside", dock, 1, 20);
        dock.enter(1, 10);
        fitting("both inside", dock, 0, 0);
    }

    static void promise35_justFittingAndNotFitting() {
        fitting("60 of 60", Docks.withShips(30, 15, 15), 3, 60);
        fitting("61 of 60", Docks.withShips(30, 15, 16), 2, 46);
        FloatingDock dock = Docks.withShips(30, 10, 20);
        dock.enter(0, 10);
        fitting("just into both gaps", dock, 2, 30);
        FloatingDock wide = Docks.withShips(30, 11, 20);
        wide.enter(0, 10);
        fitting("1 too long", wide, 1, 20);
    }

    static void promise35_noFreeMetre() {
        FloatingDock dock = Docks.withShips(30, 30, 5);
        dock.enter(0, 0);
        dock.enter(1, 30);
        fitting("full", dock, 0, 0);
    }

    static void promise35_allEightShips() {
        fitting("40 metres", Docks.withShips(5, 5, 5, 5, 5, 5, 5, 5), 8, 40);
        fitting("60 metres", Docks.withShips(7, 7, 7, 7, 7, 7, 7, 11), 8, 60);
        fitting("61 metres", Docks.withShips(7, 7, 7, 7, 7, 7, 7, 12), 7, 54);
    }

    /** Seven gaps of 1 metre and one of 18 behind them. */
    static void promise35_asManyGapsAsCanBe() {
        FloatingDock dock = Docks.withShips(5, 5, 5, 5, 5, 5, 5, 18);
        for (int ship = 0; ship < 7; ship++) {
            dock.enter(ship, 1 + 6 * ship);
        }
        fitting("just fits", dock, 1, 18);
        FloatingDock wide = Docks.withShips(5, 5, 5, 5, 5, 5, 5, 19);
        for (int ship = 0; ship < 7; ship++) {
            wide.enter(ship, 1 + 6 * ship);
        }
        fitting("1 too long", wide, 0, 0);
        dock.enter(7, 42);
        fitting("none waits", dock, 0, 0);
    }

    /** Nothing of an earlier answer may be left: each is asked before and after a change. */
    static void promise35_askedAgain() {
        FloatingDock dock = Docks.withShips(30, 30, 10);
        Check.that("two of three", dock.mostFitting(), 2);
        dock.enter(0, 0);
        Check.that("one of two", dock.mostFitting(), 1);
        dock.enter(1, 30);
        Check.that("no gap", dock.mostFitting(), 0);
        dock.leave(0);
        Check.that("both", dock.mostFitting(), 1);
    }

    static void promise36_askedAgain() {
        FloatingDock dock = Docks.withShips(30, 30, 10);
        Check.that("two of three", dock.mostFittingByTable(), 2);
        dock.enter(0, 0);
        Check.that("one of two", dock.mostFittingByTable(), 1);
        dock.enter(1, 30);
        Check.that("no gap", dock.mostFittingByTable(), 0);
        dock.leave(0);
        Check.that("both", dock.mostFittingByTable(), 1);
    }

    static void promise37_askedAgain() {
        FloatingDock dock = Docks.withShips(30, 30, 10);
        Check.that("two of three", dock.mostFittingMetres(), 60);
        dock.enter(0, 0);
        Check.that("one of two", dock.mostFittingMetres(), 30);
        dock.enter(1, 30);
        Check.that("no gap", dock.mostFittingMetres(), 0);
        dock.leave(0);
        dock.leave(1);
        dock.enter(2, 25);
        Check.that("none of 30 beside it", dock.mostFittingMetres(), 0);
    }

    static void promise35_alsoWithTheGateClosed() {
        FloatingDock dock = Docks.withShips(10);
        dock.setGate(false);
        fitting("closed", dock, 1, 10);
    }

    static void promise36_noShips() {
        Check.that("none", new FloatingDock().mostFittingByTable(), 0);
    }

    static void promise36_draughtAtMostTheLevelMinus2() {
        FloatingDock dock = Docks.atLevel(62);
        dock.addShip(10, 60, 0);
        dock.addShip(10, 61, 0);
        Check.that("one of two", dock.mostFittingByTable(), 1);
    }

    static void promise36_justFittingAndNotFitting() {
        Check.that("60 of 60", Docks.withShips(30, 30).mostFittingByTable(), 2);
        Check.that("65 of 60", Docks.withShips(30, 30, 5).mostFittingByTable(), 2);
        Check.that("60 in eight",
                Docks.withShips(7, 7, 7, 7, 7, 7, 7, 11).mostFittingByTable(), 8);
        Check.that("61 in eight",
                Docks.withShips(7, 7, 7, 7, 7, 7, 7, 12).mostFittingByTable(), 7);
    }

    /** Gaps of 10 and 11: the 11 must go into the second for the two of 5 to fit. */
    static void promise36_theGapsMatter() {
        FloatingDock dock = Docks.withShips(30, 9, 5, 5, 11);
        dock.enter(0, 10);
        dock.enter(1, 51);
        fitting("both gaps full", dock, 3, 21);
    }

    static void promise37_noShips() {
        Check.that("none", new FloatingDock().mostFittingMetres(), 0);
    }

    static void promise37_draughtAtMostTheLevelMinus2() {
        FloatingDock dock = Docks.atLevel(62);
        dock.addShip(10, 60, 0);
        dock.addShip(11, 61, 0);
        Check.that("one of two", dock.mostFittingMetres(), 10);
    }

    static void promise37_from0To60() {
        Check.that("all", Docks.withShips(30, 30).mostFittingMetres(), 60);
        Check.that("1 less", Docks.withShips(30, 29).mostFittingMetres(), 59);
        Check.that("the least", Docks.withShips(5).mostFittingMetres(), 5);
        Check.that("65 do not fit", Docks.withShips(30, 30, 5).mostFittingMetres(), 60);
    }

    static void promise37_fewerShipsMayTakeMoreMetres() {
        fitting("two take more than three", Docks.withShips(30, 30, 5, 5, 5, 5), 5, 60);
        FloatingDock dock = Docks.withShips(30, 30, 5, 5, 5);
        dock.enter(0, 0);
        fitting("one takes more than three", dock, 3, 30);
        FloatingDock split = Docks.withShips(10, 25, 24, 5);
        split.enter(0, 25);
        fitting("29 with the short one", split, 2, 49);
    }
}
