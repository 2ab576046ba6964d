import java.util.NoSuchElementException;

/** Promises 38 to 43, each sentence that names a boundary. */
final class BillBoundaries {

    private static final Class<?> ARGUMENT = IllegalArgumentException.class;
    private static final Class<?> STATE = IllegalStateException.class;
    private static final Class<?> MISSING = NoSuchElementException.class;
    private static final Class<?> INDEX = IndexOutOfBoundsException.class;

    private BillBoundaries() {
    }

    /** The ship 0 is in the dock and has this bill, an even number; the ship 1 is outside. */
    private static FloatingDock withBill(int coins) {
        FloatingDock dock = Docks.withShips(10, 10);
        dock.enter(0, 0);
        Docks.passUntil(dock, 3 + coins / 2);
        return dock;
    }

    // promises 38 and 39

    static void promise38_noSuchShip() {
        FloatingDock dock = Docks.withShips(10);
        Check.beside(0, 0, MISSING, ship -> dock.billOf(ship));
        Check.fails("no ships", MISSING, () -> new FloatingDock().billOf(0));
    }

    static void promise38_0AtFirst() {
        FloatingDock dock = withBill(0);
        Check.that("in the dock", dock.billOf(0), 0);
        Check.that("outside", dock.billOf(1), 0);
        dock.pass(1);
        Check.that("after an hour in the dock", dock.billOf(0), 2);
        Check.that("after an hour outside", dock.billOf(1), 0);
    }

    static void promise39_noSuchShip() {
        FloatingDock dock = withBill(10);
        Check.beside(0, 1, MISSING, ship -> dock.pay(ship, 1));
        Check.fails("no ships", MISSING, () -> new FloatingDock().pay(0, 1));
    }

    static void promise39_coinsFrom1To999() {
        Check.beside(1, 999, ARGUMENT, coins -> withBill(1200).pay(0, coins));
        for (int coins : new int[] {1, 2, 500, 998, 999}) {
            Check.that("" + coins, withBill(1200).pay(0, coins), 1200 - coins);
        }
        Check.fails("0", ARGUMENT, () -> withBill(1200).pay(0, 0));
        Check.fails("1000", ARGUMENT, () -> withBill(1200).pay(0, 1000));
    }

    static void promise39_notIfTheBillIsLess() {
        FloatingDock dock = withBill(10);
        Check.fails("11 of 10", STATE, () -> dock.pay(0, 11));
        Check.that("9 of 10", dock.pay(0, 9), 1);
        Check.fails("2 of 1", STATE, () -> dock.pay(0, 2));
        Check.that("1 of 1", dock.pay(0, 1), 0);
        Check.fails("1 of 0", STATE, () -> dock.pay(0, 1));
        Check.fails("1 of 0 outside", STATE, () -> dock.pay(1, 1));
        Check.that("10 of 10", withBill(10).pay(0, 10), 0);
        Check.that("999 of 1000", withBill(1000).pay(0, 999), 1);
        Check.fails("999 of 998", STATE, () -> withBill(998).pay(0, 999));
    }

    static void promise39_orderOfExceptions() {
        FloatingDock dock = withBill(10);
        Check.fails("no ship, no coins", MISSING, () -> dock.pay(2, 0));
        Check.fails("no ship, a coin", MISSING, () -> dock.pay(2, 1));
        Check.fails("1000 of 10", ARGUMENT, () -> dock.pay(0, 1000));
        Check.fails("1000 of 0", ARGUMENT, () -> dock.pay(1, 1000));
    }

    // promises 40 to 42

    private static void sums(String what, FloatingDock dock, int total, int paid) {
        Check.that(what, dock.billTotal(), total);
        Check.that(what + ", by account", dock.billTotalByAccount(), total);
        Check.that(what + ", paid", dock.paidTotal(), paid);
    }

    static void promise40_noShips() {
        sums("new", new FloatingDock(), 0, 0);
        FloatingDock dock = Docks.withShips(10);
        dock.removeShip(0);
        sums("all gone", dock, 0, 0);
    }

    static void promise40_allEightShips() {
        FloatingDock dock = Docks.withShips(5, 5, 5, 5, 5, 5, 5, 5);
        for (int ship = 0; ship < 8; ship++) {
            dock.enter(ship, 5 * ship);
            dock.pass(1);
        }
        sums("2 to 16", dock, 72, 0);
        dock.pay(0, 16);
        dock.pay(7, 2);
        sums("without the first and the last", dock, 54, 18);
    }

    static void promise41_0AtFirstAndWhenAllIsPaid() {
        Check.that("new", new FloatingDock().billTotalByAccount(), 0);
        FloatingDock dock = withBill(2);
        Check.that("charged", dock.billTotalByAccount(), 2);
        dock.pay(0, 2);
        Check.that("paid", dock.billTotalByAccount(), 0);
    }

    static void promise41_alsoAfterARemoval() {
        FloatingDock dock = withBill(10);
        dock.pay(0, 10);
        dock.leave(0);
        dock.removeShip(0);
        sums("removed", dock, 0, 10);
        dock.enter(1, 0);
        dock.pass(1);
        sums("another one", dock, 2, 10);
    }

    static void promise42_nothingIsPaidAtFirst() {
        FloatingDock dock = withBill(10);
        sums("charged alone", dock, 10, 0);
        dock.pay(0, 1);
        sums("a coin", dock, 9, 1);
        Check.fails("too much", STATE, () -> dock.pay(0, 10));
        sums("refused", dock, 9, 1);
    }

    // promise 43

    private static void ranks(String what, FloatingDock dock, int... due) {
        for (int rank = 0; rank < due.length; rank++) {
            Check.that(what + ", rank " + rank, dock.shipAtRank(rank), due[rank]);
        }
    }

    static void promise43_noSuchRank() {
        FloatingDock dock = new FloatingDock();
        for (int count = 0; count <= 8; count++) {
            Check.range(0, count - 1, INDEX, rank -> dock.shipAtRank(rank));
            Check.outcome(() -> dock.addShip(5, 5, 5));
        }
    }

    static void promise43_theGreaterBillFirst() {
        FloatingDock dock = new FloatingDock();
        dock.addShip(10, 20, 99);
        dock.addShip(10, 20, 0);
        ranks("the same bill", dock, 0, 1);
        dock.enter(1, 0);
        dock.pass(1);
        ranks("2 coins more", dock, 1, 0);
        dock.pay(1, 1);
        ranks("1 coin more", dock, 1, 0);
        dock.pay(1, 1);
        ranks("the same again", dock, 0, 1);
    }

    static void promise43_thenMoreDirtFirst() {
        FloatingDock dock = new FloatingDock();
        dock.addShip(10, 20, 0);
        dock.addShip(10, 20, 1);
        dock.addShip(10, 20, 99);
        dock.addShip(10, 20, 98);
        ranks("no bills", dock, 2, 3, 1, 0);
        for (int ship = 0; ship < 4; ship++) {
            dock.enter(ship, 10 * ship);
        }
        dock.pass(1);
        ranks("the same bill", dock, 2, 3, 1, 0);
    }

    static void promise43_thenTheLowerIdFirst() {
        FloatingDock dock = new FloatingDock();
        for (int ship = 0; ship < 8; ship++) {
            dock.addShip(10, 20, 7);
        }
        ranks("all the same", dock, 0, 1, 2, 3, 4, 5, 6, 7);
        dock.removeShip(0);
        dock.addShip(10, 20, 7);
        ranks("the first is gone", dock, 1, 2, 3, 4, 5, 6, 7, 8);
    }
}
