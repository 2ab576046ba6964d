/** Promises 38 to 43: bills. */
final class BillPromises {

    private static final Class<?> ARGUMENT = IllegalArgumentException.class;
    private static final Class<?> STATE = IllegalStateException.class;
    private static final Class<?> INDEX = IndexOutOfBoundsException.class;

    private BillPromises() {
    }

    static void runAll() {
        billsAndPaying();
        payWrongly();
        largeBills();
        shipAtRank();
        wrongRanks();
    }

    private static void sums(FloatingDock dock, int total, int paid) {
        Check.that("promise 40", dock.billTotal(), total);
        Check.that("promise 41", dock.billTotalByAccount(), total);
        Check.that("promise 42", dock.paidTotal(), paid);
    }

    private static void billsAndPaying() {
        FloatingDock dock = Docks.withShips(10, 10, 10);
        sums(dock, 0, 0);
        dock.enter(0, 0);
        dock.enter(2, 20);
        dock.pass(5);
        Check.that("promise 38: in the dock", dock.billOf(0), 10);
        Check.that("promise 38: outside", dock.billOf(1), 0);
        sums(dock, 20, 0);
        Check.that("promise 39: a part", dock.pay(0, 4), 6);
        Check.that("promise 38: the rest", dock.billOf(0), 6);
        Check.that("promise 38: of another ship", dock.billOf(2), 10);
        sums(dock, 16, 4);
        Check.that("promise 39: one coin", dock.pay(0, 1), 5);
        Check.that("promise 39: all", dock.pay(0, 5), 0);
        sums(dock, 10, 10);
        dock.leave(0);
        dock.removeShip(0);
        sums(dock, 10, 10);
        dock.undo();
        dock.undo();
        dock.undo();
        sums(dock, 15, 5);
    }

    private static void payWrongly() {
        FloatingDock dock = Docks.withShips(10, 10);
        dock.enter(0, 0);
        dock.pass(3);
        for (int coins : new int[] {0, -1, 1000, Integer.MIN_VALUE, Integer.MAX_VALUE}) {
            Docks.refuses("promise 39: " + coins, dock, ARGUMENT, () -> dock.pay(0, coins));
        }
        Docks.refuses("promise 39: 7 of 6", dock, STATE, () -> dock.pay(0, 7));
        Docks.refuses("promise 39: 999 of 6", dock, STATE, () -> dock.pay(0, 999));
        Docks.refuses("promise 39: 1 of 0", dock, STATE, () -> dock.pay(1, 1));
        Docks.refuses("promise 39: 1000 of 6", dock, ARGUMENT, () -> dock.pay(0, 1000));
        sums(dock, 6, 0);
    }

    private static void largeBills() {
        FloatingDock dock = Docks.withShips(10);
        dock.enter(0, 0);
        for (int i = 0; i < 11; i++) {
            dock.pass(48);
        }
        Check.that("promise 38: 528 hours", dock.billOf(0), 1056);
        Check.that("promise 39: 999", dock.pay(0, 999), 57);
        sums(dock, 57, 999);
    }

    private static void ranks(FloatingDock dock, int... due) {
        for (int rank = 0; rank < due.length; rank++) {
            Check.that("promise 43: rank " + rank, dock.shipAtRank(rank), due[rank]);
        }
    }

    private static void shipAtRank() {
        FloatingDock dock = new FloatingDock();
        int[] dirts = {5, 9, 5, 9, 0, 99};
        for (int dirt : dirts) {
            dock.addShip(10, 20, dirt);
        }
        ranks(dock, 5, 1, 3, 0, 2, 4);
        dock.enter(4, 0);
        dock.enter(2, 10);
        dock.enter(0, 20);
        dock.pass(2);
        ranks(dock, 0, 2, 4, 5, 1, 3);
        dock.pay(0, 1);
        ranks(dock, 2, 4, 0, 5, 1, 3);
        dock.pay(2, 2);
        ranks(dock, 4, 0, 2, 5, 1, 3);
        dock.removeShip(5);
        ranks(dock, 4, 0, 2, 1, 3);
        dock.addShip(10, 20, 9);
        ranks(dock, 4, 0, 2, 1, 3, 6);
    }

    private static void wrongRanks() {
        FloatingDock dock = new FloatingDock();
        Check.fails("promise 43: no ships", INDEX, () -> dock.shipAtRank(0));
        Docks.addShips(dock, 10, 10, 10);
        dock.removeShip(2);
        for (int rank : new int[] {-1, 2, 3, 8, Integer.MIN_VALUE, Integer.MAX_VALUE}) {
            Docks.refuses("promise 43: " + rank, dock, INDEX, () -> dock.shipAtRank(rank));
        }
    }
}
