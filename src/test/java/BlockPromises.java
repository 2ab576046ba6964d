import java.util.NoSuchElementException;

/** Promises 26 to 37: blocks and gaps. */
final class BlockPromises {

    private static final Class<?> ARGUMENT = IllegalArgumentException.class;
    private static final Class<?> STATE = IllegalStateException.class;
    private static final Class<?> MISSING = NoSuchElementException.class;
    private static final Class<?> UNSUPPORTED = UnsupportedOperationException.class;
    private static final int LEAST = Integer.MIN_VALUE;
    private static final int MOST = Integer.MAX_VALUE;

    private BlockPromises() {
    }

    static void runAll() {
        placeBlock();
        placeTooManyBlocks();
        removeBlock();
        workAtTheLevel30();
        workBeneathShips();
        wrongPositions();
        blocksBeneath();
        shipAtPosition();
        firstGap();
        freeMetres();
        fittingByNumber();
        fittingByMetres();
        fittingAgainstOrders();
        fittingIntoTheLastOfManyGaps();
        fittingAskedAlone();
        waitingShips();
    }

    private static void placeBlock() {
        FloatingDock dock = Docks.empty();
        Check.that("promise 26: the first", dock.placeBlock(59), 1);
        Check.that("promise 26: the second", dock.placeBlock(0), 2);
        Check.that("promise 28: at 0", dock.hasBlock(0), true);
        Check.that("promise 28: at 59", dock.hasBlock(59), true);
        Check.that("promise 28: at 1", dock.hasBlock(1), false);
        Docks.refuses("promise 26: there is one", dock, STATE, () -> dock.placeBlock(59));
        dock.setPump(30);
        dock.pass(2);
        Docks.refuses("promise 26: there is one, level 60", dock, STATE, () -> dock.placeBlock(0));
        Docks.refuses("promise 26: level 60", dock, UNSUPPORTED, () -> dock.placeBlock(1));
    }

    private static void placeTooManyBlocks() {
        FloatingDock dock = Docks.empty();
        for (int i = 1; i <= 20; i++) {
            Check.that("promise 26: block " + i, dock.placeBlock(i), i);
        }
        Docks.refuses("promise 26: 21 blocks", dock, STATE, () -> dock.placeBlock(40));
        Docks.refuses("promise 26: 21 blocks, at -1", dock, ARGUMENT, () -> dock.placeBlock(-1));
        Check.that("promise 27: 19 blocks", dock.removeBlock(7), 19);
        Check.that("promise 26: 20 again", dock.placeBlock(40), 20);
        dock.setPump(30);
        dock.pass(2);
        Docks.refuses("promise 26: 21 blocks, level 60", dock, STATE, () -> dock.placeBlock(50));
    }

    private static void removeBlock() {
        FloatingDock dock = Docks.empty();
        for (int position : new int[] {4, 8, 0, 59}) {
            dock.placeBlock(position);
        }
        Check.that("promise 27: 3 are left", dock.removeBlock(8), 3);
        Check.that("promise 28: taken away", dock.hasBlock(8), false);
        Check.that("promise 28: the first stays", dock.hasBlock(4), true);
        Check.that("promise 28: the last stays", dock.hasBlock(59), true);
        Docks.refuses("promise 27: none there", dock, MISSING, () -> dock.removeBlock(8));
        Check.that("promise 27: 2 are left", dock.removeBlock(59), 2);
        Check.that("promise 27: 1 is left", dock.removeBlock(0), 1);
        Check.that("promise 27: none is left", dock.removeBlock(4), 0);
        dock.setPump(30);
        dock.pass(2);
        Docks.refuses("promise 27: none there, level 60", dock, MISSING,
                () -> dock.removeBlock(4));
        FloatingDock full = Docks.withBlocks(3);
        Docks.refuses("promise 27: level 90", full, UNSUPPORTED, () -> full.removeBlock(3));
    }

    private static void workAtTheLevel30() {
        FloatingDock dock = Docks.empty();
        dock.setPump(30);
        dock.pass(1);
        Check.that("promise 26: at the level 30", dock.placeBlock(5), 1);
        Check.that("promise 27: at the level 30", dock.removeBlock(5), 0);
        dock.placeBlock(6);
        dock.setPump(1);
        dock.pass(1);
        Docks.refuses("promise 26: at the level 31", dock, UNSUPPORTED, () -> dock.placeBlock(5));
        Docks.refuses("promise 27: at the level 31", dock, UNSUPPORTED, () -> dock.removeBlock(6));
    }

    private static void workBeneathShips() {
        FloatingDock dock = Docks.withBlocks(9, 10, 15, 19, 20);
        dock.addShip(10, 20, 0);
        dock.enter(0, 10);
        Docks.drain(dock);
        for (int position : new int[] {11, 14, 18}) {
            Docks.refuses("promise 26: beneath, " + position, dock, UNSUPPORTED,
                    () -> dock.placeBlock(position));
        }
        for (int position : new int[] {10, 15, 19}) {
            Docks.refuses("promise 27: beneath, " + position, dock, UNSUPPORTED,
                    () -> dock.removeBlock(position));
            Docks.refuses("promise 26: a block and a ship, " + position, dock, STATE,
                    () -> dock.placeBlock(position));
        }
        Docks.refuses("promise 27: no block and a ship", dock, MISSING, () -> dock.removeBlock(11));
        Check.that("promise 27: beside it on the left", dock.removeBlock(9), 4);
        Check.that("promise 27: beside it on the right", dock.removeBlock(20), 3);
        Check.that("promise 26: beside it on the left", dock.placeBlock(9), 4);
        Check.that("promise 26: beside it on the right", dock.placeBlock(20), 5);
    }

    private static void wrongPositions() {
        FloatingDock dock = Docks.withShips(10);
        for (int position : new int[] {-1, 60, LEAST, MOST}) {
            Docks.refuses("promise 26: " + position, dock, ARGUMENT,
                    () -> dock.placeBlock(position));
            Docks.refuses("promise 27: " + position, dock, ARGUMENT,
                    () -> dock.removeBlock(position));
            Docks.refuses("promise 28: " + position, dock, ARGUMENT,
                    () -> dock.hasBlock(position));
            Docks.refuses("promise 31: " + position, dock, ARGUMENT,
                    () -> dock.shipAtPosition(position));
        }
    }

    private static void blocksBeneath() {
        FloatingDock dock = Docks.withBlocks(9, 10, 15, 19, 20, 0, 59);
        dock.addShip(10, 20, 0);
        dock.addShip(5, 20, 0);
        beneath(dock, 0, 0);
        dock.enter(0, 10);
        beneath(dock, 0, 3);
        dock.enter(1, 55);
        beneath(dock, 1, 1);
        dock.leave(1);
        beneath(dock, 1, 0);
        dock.enter(1, 0);
        beneath(dock, 1, 1);
        dock.leave(1);
        dock.enter(1, 30);
        beneath(dock, 1, 0);
    }

    private static void beneath(FloatingDock dock, int ship, int due) {
        Check.that("promise 29: ship " + ship, dock.blocksBeneath(ship), due);
        Check.that("promise 30: ship " + ship, dock.blocksBeneathByBlocks(ship), due);
    }

    private static void shipAtPosition() {
        FloatingDock dock = Docks.withShips(10, 5, 7);
        Docks.refuses("promise 31: outside", dock, MISSING, () -> dock.shipAtPosition(0));
        dock.enter(1, 0);
        dock.enter(2, 53);
        Check.that("promise 31: the first metre", dock.shipAtPosition(0), 1);
        Check.that("promise 31: the last of 5", dock.shipAtPosition(4), 1);
        Docks.refuses("promise 31: behind it", dock, MISSING, () -> dock.shipAtPosition(5));
        Docks.refuses("promise 31: ahead of it", dock, MISSING, () -> dock.shipAtPosition(52));
        Check.that("promise 31: its first", dock.shipAtPosition(53), 2);
        Check.that("promise 31: the end of the dock", dock.shipAtPosition(59), 2);
    }

    private static void firstGap() {
        FloatingDock dock = Docks.withShips(10, 5, 30, 8);
        gap(dock, 1, 0);
        gap(dock, 60, 0);
        dock.enter(1, 50);
        gap(dock, 50, 0);
        noGap(dock, 51);
        dock.enter(0, 5);
        gap(dock, 5, 0);
        gap(dock, 6, 15);
        gap(dock, 35, 15);
        noGap(dock, 36);
        dock.enter(2, 17);
        gap(dock, 1, 0);
        gap(dock, 5, 0);
        noGap(dock, 6);
        FloatingDock reversed = Docks.withShips(20, 10, 9);
        reversed.enter(0, 39);
        reversed.enter(1, 29);
        reversed.enter(2, 1);
        gap(reversed, 1, 0);
        gap(reversed, 2, 10);
        gap(reversed, 19, 10);
        noGap(reversed, 20);
        for (int length : new int[] {0, 61, -1, LEAST, MOST}) {
            Docks.refuses("promise 32: " + length, dock, ARGUMENT, () -> dock.firstGap(length));
            Docks.refuses("promise 33: " + length, dock, ARGUMENT,
                    () -> dock.firstGapByShips(length));
        }
        FloatingDock full = Docks.withShips(30, 30);
        full.enter(1, 0);
        full.enter(0, 30);
        noGap(full, 1);
    }

    private static void gap(FloatingDock dock, int length, int due) {
        Check.that("promise 32: " + length, dock.firstGap(length), due);
        Check.that("promise 33: " + length, dock.firstGapByShips(length), due);
    }

    private static void noGap(FloatingDock dock, int length) {
        Docks.refuses("promise 32: " + length, dock, MISSING, () -> dock.firstGap(length));
        Docks.refuses("promise 33: " + length, dock, MISSING, () -> dock.firstGapByShips(length));
    }

    private static void freeMetres() {
        FloatingDock dock = Docks.withShips(30, 7, 23);
        Check.that("promise 34: all", dock.freeMetres(), 60);
        dock.enter(0, 0);
        dock.enter(1, 35);
        Check.that("promise 34: 23", dock.freeMetres(), 23);
        dock.leave(0);
        Check.that("promise 34: 53", dock.freeMetres(), 53);
        dock.enter(0, 0);
        dock.leave(1);
        dock.enter(1, 30);
        dock.enter(2, 37);
        Check.that("promise 34: none", dock.freeMetres(), 0);
    }

    private static void fitting(FloatingDock dock, int ships, int metres) {
        Check.that("promise 35: number", dock.mostFitting(), ships);
        Check.that("promise 36: number", dock.mostFittingByTable(), ships);
        Check.that("promise 37: metres", dock.mostFittingMetres(), metres);
    }

    private static void fittingByNumber() {
        fitting(new FloatingDock(), 0, 0);
        fitting(Docks.withShips(30), 1, 30);
        fitting(Docks.withShips(30, 30), 2, 60);
        fitting(Docks.withShips(30, 30, 5), 2, 60);
        fitting(Docks.withShips(30, 30, 30), 2, 60);
        fitting(Docks.withShips(5, 5, 5, 5, 5, 5, 5, 5), 8, 40);
        fitting(Docks.withShips(7, 7, 7, 7, 7, 7, 7, 11), 8, 60);
        fitting(Docks.withShips(7, 7, 7, 7, 7, 7, 7, 12), 7, 54);
    }

    private static void fittingByMetres() {
        FloatingDock dock = Docks.withShips(30, 17, 13, 12, 12, 6, 5);
        dock.enter(0, 17);
        fitting(dock, 3, 30);
        FloatingDock split = Docks.withShips(10, 26, 25, 24, 5, 6);
        split.enter(0, 25);
        fitting(split, 3, 49);
    }

    /** In gaps of 10 and 11, three ships fit only if the longest one is put into the second. */
    private static void fittingAgainstOrders() {
        FloatingDock dock = Docks.withShips(30, 9, 5, 5, 11);
        dock.enter(0, 10);
        dock.enter(1, 51);
        fitting(dock, 3, 21);
    }

    private static void fittingIntoTheLastOfManyGaps() {
        FloatingDock dock = Docks.withShips(5, 5, 5, 5, 5, 5, 5, 18);
        for (int ship = 0; ship < 7; ship++) {
            dock.enter(ship, 1 + 6 * ship);
        }
        fitting(dock, 1, 18);
        dock.enter(7, 42);
        fitting(dock, 0, 0);
        FloatingDock all = Docks.withShips(5, 5, 5, 5, 5, 5, 5, 5);
        for (int ship = 0; ship < 8; ship++) {
            all.enter(ship, 1 + 6 * ship);
        }
        fitting(all, 0, 0);
    }

    /** None of the three may lean on what another one of them has found. */
    private static void fittingAskedAlone() {
        FloatingDock dock = Docks.withShips(30, 20, 10);
        Check.that("promise 36: asked first", dock.mostFittingByTable(), 3);
        dock.enter(0, 0);
        Check.that("promise 37: asked first", dock.mostFittingMetres(), 30);
        dock.enter(1, 30);
        Check.that("promise 36: asked again", dock.mostFittingByTable(), 1);
        dock.enter(2, 50);
        Check.that("promise 37: asked again", dock.mostFittingMetres(), 0);
        dock.leave(1);
        Check.that("promise 35: asked first", dock.mostFitting(), 1);
        Check.that("promise 37: asked last", dock.mostFittingMetres(), 20);
    }

    private static void waitingShips() {
        FloatingDock dock = new FloatingDock();
        dock.addShip(10, 80, 0);
        dock.addShip(11, 79, 0);
        dock.addShip(12, 78, 0);
        dock.setGate(false);
        dock.setPump(-20);
        dock.pass(1);
        fitting(dock, 1, 12);
        dock.setPump(1);
        dock.pass(1);
        fitting(dock, 2, 23);
        dock.pass(1);
        fitting(dock, 3, 33);
        dock.pass(20);
        dock.setPump(-1);
        dock.pass(1);
        fitting(dock, 3, 33);
    }
}
