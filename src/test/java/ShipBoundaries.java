import java.util.NoSuchElementException;

/** Promises 1 to 15, each sentence that names a boundary. */
final class ShipBoundaries {

    private static final Class<?> ARGUMENT = IllegalArgumentException.class;
    private static final Class<?> STATE = IllegalStateException.class;
    private static final Class<?> MISSING = NoSuchElementException.class;
    private static final Class<?> INDEX = IndexOutOfBoundsException.class;
    private static final Class<?> UNSUPPORTED = UnsupportedOperationException.class;

    private ShipBoundaries() {
    }

    /** Ids that are not given: there are the ships 1 and 2, and 0 and 3 are gone. */
    private static void noSuchShip(Check.NumberCall call, FloatingDock dock) {
        for (int id : new int[] {0, 3, 4, -1, -2, 8, 257, 65537, Integer.MIN_VALUE,
            Integer.MAX_VALUE}) {
            Check.fails("" + id, MISSING, () -> call.answer(id));
        }
        Check.that("there are two", dock.shipCount(), 2);
    }

    /** The ship 1 is in the dock at 20 and is 10 long, the ship 2 is outside. */
    private static FloatingDock oneInOneOutside() {
        FloatingDock dock = Docks.withShips(10, 10, 10, 10);
        dock.removeShip(0);
        dock.removeShip(3);
        dock.enter(1, 20);
        return dock;
    }

    // promise 1

    static void promise1_withoutShips() {
        FloatingDock dock = new FloatingDock();
        Check.that("count", dock.shipCount(), 0);
        Check.fails("the first", INDEX, () -> dock.shipAt(0));
        Check.that("all is free", dock.freeMetres(), 60);
    }

    static void promise1_withoutBlocks() {
        FloatingDock dock = new FloatingDock();
        for (int position = 0; position < 60; position++) {
            Check.that("block at " + position, dock.hasBlock(position), false);
        }
        dock.describeDock();
        Check.that("line", Docks.line(dock), ".".repeat(60));
        FloatingDock empty = Docks.empty();
        Check.that("the first block", empty.placeBlock(0), 1);
    }

    // promise 2

    static void promise2_lengthFrom5To30() {
        Check.range(5, 30, ARGUMENT, length -> new FloatingDock().addShip(length, 40, 50));
    }

    static void promise2_draughtFrom5To80() {
        Check.range(5, 80, ARGUMENT, draught -> new FloatingDock().addShip(10, draught, 50));
    }

    static void promise2_dirtFrom0To99() {
        Check.range(0, 99, ARGUMENT, dirt -> new FloatingDock().addShip(10, 40, dirt));
    }

    static void promise2_notIfThereAre8Ships() {
        FloatingDock dock = Docks.withShips(5, 5, 5, 5, 5, 5, 5);
        Check.that("the eighth", dock.addShip(5, 5, 5), 7);
        Check.fails("the ninth", STATE, () -> dock.addShip(5, 5, 5));
        dock.removeShip(7);
        Check.that("after a removal", dock.addShip(5, 5, 5), 8);
        Check.fails("the ninth again", STATE, () -> dock.addShip(5, 5, 5));
    }

    static void promise2_shipsInTheDockCountToo() {
        FloatingDock dock = Docks.withShips(5, 5, 5, 5, 5, 5, 5, 5);
        for (int ship = 0; ship < 8; ship++) {
            dock.enter(ship, 5 * ship);
        }
        Check.fails("the ninth", STATE, () -> dock.addShip(5, 5, 5));
    }

    static void promise2_isOutsideTheDock() {
        FloatingDock dock = Docks.withShips(10);
        Check.that("in the dock", dock.isInDock(0), false);
        Check.fails("position", STATE, () -> dock.positionOf(0));
        Check.that("takes nothing", dock.freeMetres(), 60);
    }

    static void promise2_hasNoBill() {
        FloatingDock dock = Docks.withShips(10);
        Check.that("bill", dock.billOf(0), 0);
        Check.fails("nothing to pay", STATE, () -> dock.pay(0, 1));
    }

    /** The ship that is gone was in the dock, was cleaned, and had all that a ship can have. */
    static void promise2_hasNothingOfAShipThatIsGone() {
        FloatingDock dock = Docks.withBlocks(10, 11);
        dock.save();
        Docks.addShips(dock, 10, 10, 10);
        dock.enter(0, 0);
        dock.enter(1, 10);
        dock.setCleaning(0, true);
        dock.setCleaning(1, true);
        Docks.drain(dock);
        Check.that("0 before", Docks.bill(dock, 0), "#0:6/0!1_");
        Check.that("1 before", Docks.bill(dock, 1), "#1:17/7_");
        dock.restore();
        Check.that("all is free", dock.freeMetres(), 60);
        Check.that("share", dock.takenShare(), 0.0f);
        Check.that("no bills", dock.billTotal(), 0);
        for (int id = 0; id < 3; id++) {
            dock.addShip(6, 20, 5);
            Check.that(id + " now", Docks.bill(dock, id), "#" + id + ":0/5");
            Check.that(id + ", hours afloat", dock.hoursAfloat(id), 0);
            Check.that(id + ", damage", dock.damageOf(id), 0);
            Check.that(id + ", in the dock", dock.isInDock(id), false);
            Check.that(id + ", enters", dock.enter(id, 6 * id), id + 1);
            Check.that(id + ", is cleaned", dock.setCleaning(id, false), false);
        }
    }

    static void promise2_orderOfExceptions() {
        FloatingDock dock = Docks.withShips(5, 5, 5, 5, 5, 5, 5, 5);
        Check.fails("length, 8 ships", ARGUMENT, () -> dock.addShip(4, 5, 0));
        Check.fails("draught, 8 ships", ARGUMENT, () -> dock.addShip(5, 81, 0));
        Check.fails("dirt, 8 ships", ARGUMENT, () -> dock.addShip(5, 5, 100));
    }

    // promise 3

    static void promise3_noSuchShip() {
        FloatingDock dock = oneInOneOutside();
        noSuchShip(id -> dock.removeShip(id), dock);
    }

    static void promise3_noShipsAtAll() {
        FloatingDock dock = new FloatingDock();
        Check.fails("0", MISSING, () -> dock.removeShip(0));
        Check.fails("-1", MISSING, () -> dock.removeShip(-1));
    }

    static void promise3_notInTheDock() {
        FloatingDock dock = Docks.withShips(10);
        dock.enter(0, 0);
        Check.fails("in the dock without a bill", STATE, () -> dock.removeShip(0));
        dock.leave(0);
        Check.that("outside", dock.removeShip(0), 0);
    }

    /** A ship leaves without a bill alone, so one with a bill is always in the dock. */
    static void promise3_notWithABill() {
        FloatingDock dock = Docks.withShips(10);
        dock.enter(0, 0);
        dock.pass(1);
        dock.pay(0, 1);
        Check.fails("1 coin", STATE, () -> dock.removeShip(0));
        dock.pay(0, 1);
        Check.fails("no coin, but in the dock", STATE, () -> dock.removeShip(0));
    }

    static void promise3_returnsTheDirtFrom0To99() {
        FloatingDock dock = new FloatingDock();
        dock.addShip(5, 5, 99);
        dock.addShip(5, 5, 0);
        Check.that("the most", dock.removeShip(0), 99);
        Check.that("the least", dock.removeShip(1), 0);
    }

    static void promise3_theFirstTheLastAndTheOnlyOne() {
        FloatingDock dock = Docks.withShips(5, 5, 5, 5, 5, 5, 5, 5);
        Check.that("the first", dock.removeShip(0), 0);
        Check.that("the first now", dock.shipAt(0), 1);
        Check.that("the last", dock.removeShip(7), 70);
        Check.that("the last now", dock.shipAt(5), 6);
        for (int ship = 2; ship < 7; ship++) {
            dock.removeShip(ship);
        }
        Check.that("the only one", dock.removeShip(1), 10);
        Check.that("none", dock.shipCount(), 0);
    }

    // promise 4

    static void promise4_noSuchShip() {
        FloatingDock dock = oneInOneOutside();
        noSuchShip(id -> dock.enter(id, 0), dock);
    }

    static void promise4_positionIsNotNegative() {
        FloatingDock dock = Docks.withShips(10);
        for (int position : new int[] {-1, -2, -10, -60, Integer.MIN_VALUE}) {
            Check.fails("" + position, ARGUMENT, () -> dock.enter(0, position));
        }
        Check.that("0", dock.enter(0, 0), 1);
    }

    static void promise4_endsAt59OrBefore() {
        for (int length = 5; length <= 30; length++) {
            FloatingDock dock = Docks.withShips(length);
            int last = 60 - length;
            Check.fails(length + " long, ends at 60", ARGUMENT, () -> dock.enter(0, last + 1));
            Check.that(length + " long, ends at 59", dock.enter(0, last), 1);
            dock.leave(0);
            Check.that(length + " long, ends at 58", dock.enter(0, last - 1), 1);
        }
        FloatingDock dock = Docks.withShips(10);
        for (int position : new int[] {55, 59, 60, 256, 65536, Integer.MAX_VALUE - 9,
            Integer.MAX_VALUE - 8, Integer.MAX_VALUE}) {
            Check.fails("" + position, ARGUMENT, () -> dock.enter(0, position));
        }
    }

    static void promise4_notIfInTheDock() {
        FloatingDock dock = Docks.withShips(10);
        dock.enter(0, 0);
        Check.fails("elsewhere", STATE, () -> dock.enter(0, 20));
        Check.fails("where it is", STATE, () -> dock.enter(0, 0));
        Check.that("position", dock.positionOf(0), 0);
    }

    static void promise4_notIfTheGateIsClosed() {
        FloatingDock dock = Docks.withShips(10);
        dock.setGate(false);
        Check.fails("closed", STATE, () -> dock.enter(0, 0));
        dock.setGate(true);
        Check.that("open", dock.enter(0, 0), 1);
    }

    static void promise4_returnsTheShipsInTheDock() {
        FloatingDock dock = Docks.withShips(5, 5, 5, 5, 5, 5, 5, 5);
        for (int ship = 7; ship >= 0; ship--) {
            Check.that("ship " + ship, dock.enter(ship, 7 * ship), 8 - ship);
        }
    }

    static void promise4_orderOfExceptions() {
        FloatingDock dock = Docks.openAt(60);
        Docks.addShips(dock, 10, 10);
        dock.addShip(10, 59, 0);
        dock.enter(0, 0);
        Check.fails("no ship, position", MISSING, () -> dock.enter(3, -1));
        Check.fails("position, in the dock", ARGUMENT, () -> dock.enter(0, 51));
        Check.fails("position, shallow", ARGUMENT, () -> dock.enter(2, -1));
        Check.fails("position, overlap", ARGUMENT, () -> dock.enter(1, -1));
        Check.fails("in the dock, overlap", STATE, () -> dock.enter(0, 5));
        dock.setGate(false);
        Check.fails("no ship, closed", MISSING, () -> dock.enter(3, 0));
        Check.fails("position, closed", ARGUMENT, () -> dock.enter(1, 51));
        Check.fails("closed, shallow", STATE, () -> dock.enter(2, 30));
        Check.fails("closed, overlap", STATE, () -> dock.enter(1, 5));
        Check.fails("no reason was kept", MISSING, () -> dock.refusalReason());
    }

    // promise 5

    static void promise5_noSuchShip() {
        FloatingDock dock = oneInOneOutside();
        noSuchShip(id -> dock.leave(id), dock);
    }

    static void promise5_notIfOutside() {
        FloatingDock dock = oneInOneOutside();
        Check.fails("outside", STATE, () -> dock.leave(2));
        Check.that("in the dock", dock.leave(1), 0);
        Check.fails("has left", STATE, () -> dock.leave(1));
    }

    static void promise5_notIfTheGateIsClosed() {
        FloatingDock dock = oneInOneOutside();
        dock.setGate(false);
        Check.fails("closed", STATE, () -> dock.leave(1));
        dock.setGate(true);
        Check.that("open", dock.leave(1), 0);
    }

    static void promise5_returnsTheShipsInTheDock() {
        FloatingDock dock = Docks.withShips(5, 5, 5, 5, 5, 5, 5, 5);
        for (int ship = 0; ship < 8; ship++) {
            dock.enter(ship, 7 * ship);
        }
        for (int left = 7; left >= 0; left--) {
            Check.that("left", dock.leave(7 - left), left);
        }
    }

    static void promise5_orderOfExceptions() {
        FloatingDock dock = Docks.openAt(100);
        dock.addShip(10, 80, 0);
        dock.addShip(10, 20, 0);
        dock.addShip(10, 20, 0);
        dock.enter(0, 0);
        dock.enter(1, 10);
        dock.setGate(false);
        Check.fails("no ship, closed", MISSING, () -> dock.leave(3));
        Docks.pumpTo(dock, 70);
        Check.fails("closed, rests with a bill", STATE, () -> dock.leave(0));
        Check.fails("closed, afloat with a bill", STATE, () -> dock.leave(1));
        Check.fails("closed and outside", STATE, () -> dock.leave(2));
        dock.pay(0, 2);
        Check.fails("closed, rests without a bill", STATE, () -> dock.leave(0));
        Check.fails("no reason was kept", MISSING, () -> dock.refusalReason());
    }

    // promise 6

    static void promise6_noSuchShip() {
        FloatingDock dock = oneInOneOutside();
        noSuchShip(id -> dock.setCleaning(id, true), dock);
        noSuchShip(id -> dock.setCleaning(id, false), dock);
    }

    static void promise6_notIfOutside() {
        FloatingDock dock = oneInOneOutside();
        Check.fails("start", STATE, () -> dock.setCleaning(2, true));
        Check.fails("stop", STATE, () -> dock.setCleaning(2, false));
        Check.that("in the dock", dock.setCleaning(1, true), false);
        dock.leave(1);
        Check.fails("has left", STATE, () -> dock.setCleaning(1, false));
    }

    static void promise6_returnsWhetherItWasCleanedBefore() {
        FloatingDock dock = oneInOneOutside();
        Check.that("stop what is not", dock.setCleaning(1, false), false);
        Check.that("start", dock.setCleaning(1, true), false);
        Check.that("start again", dock.setCleaning(1, true), true);
        Check.that("stop", dock.setCleaning(1, false), true);
        Check.that("stop again", dock.setCleaning(1, false), false);
    }

    // promises 7 and 8

    static void promise7_from0To8Ships() {
        FloatingDock dock = new FloatingDock();
        for (int count = 0; count < 8; count++) {
            Check.that("count", dock.shipCount(), count);
            dock.addShip(5, 5, 5);
        }
        Check.that("all", dock.shipCount(), 8);
        dock.removeShip(3);
        Check.that("one less", dock.shipCount(), 7);
    }

    static void promise8_noSuchPlace() {
        FloatingDock dock = new FloatingDock();
        for (int count = 0; count <= 8; count++) {
            int ships = count;
            Check.range(0, ships - 1, INDEX, place -> dock.shipAt(place));
            Check.outcome(() -> dock.addShip(5, 5, 5));
        }
    }

    static void promise8_noPlaceOfARemovedShip() {
        FloatingDock dock = Docks.withShips(5, 5, 5, 5, 5, 5, 5, 5);
        for (int left = 7; left >= 0; left--) {
            dock.removeShip(left);
            Check.range(0, left - 1, INDEX, place -> dock.shipAt(place));
        }
    }

    static void promise8_ascendingIds() {
        FloatingDock dock = Docks.withShips(5, 5, 5, 5, 5, 5, 5, 5);
        dock.removeShip(0);
        dock.removeShip(3);
        dock.removeShip(7);
        Docks.addShips(dock, 5, 5, 5);
        int[] due = {1, 2, 4, 5, 6, 8, 9, 10};
        for (int place = 0; place < 8; place++) {
            Check.that("place " + place, dock.shipAt(place), due[place]);
        }
    }

    // promises 9 to 14

    static void promise9_noSuchShip() {
        FloatingDock dock = oneInOneOutside();
        noSuchShip(id -> dock.isInDock(id), dock);
    }

    static void promise9_inTheDockAndOutside() {
        FloatingDock dock = oneInOneOutside();
        Check.that("in the dock", dock.isInDock(1), true);
        Check.that("outside", dock.isInDock(2), false);
    }

    static void promise10_noSuchShip() {
        FloatingDock dock = oneInOneOutside();
        noSuchShip(id -> dock.positionOf(id), dock);
    }

    static void promise10_notIfOutside() {
        FloatingDock dock = oneInOneOutside();
        Check.fails("never entered", STATE, () -> dock.positionOf(2));
        Check.that("in the dock", dock.positionOf(1), 20);
        dock.leave(1);
        Check.fails("has left", STATE, () -> dock.positionOf(1));
    }

    static void promise10_theFirstAndTheLastPosition() {
        FloatingDock dock = Docks.withShips(5, 5);
        dock.enter(0, 0);
        dock.enter(1, 55);
        Check.that("the first", dock.positionOf(0), 0);
        Check.that("the last", dock.positionOf(1), 55);
    }

    static void promise11_noSuchShip() {
        FloatingDock dock = oneInOneOutside();
        noSuchShip(id -> dock.dirtOf(id), dock);
    }

    static void promise11_dirtFrom0To99() {
        FloatingDock dock = new FloatingDock();
        dock.addShip(5, 5, 0);
        dock.addShip(5, 5, 99);
        Check.that("the least", dock.dirtOf(0), 0);
        Check.that("the most", dock.dirtOf(1), 99);
    }

    static void promise12_noSuchShip() {
        FloatingDock dock = oneInOneOutside();
        noSuchShip(id -> dock.damageOf(id), dock);
    }

    static void promise12_noDamageAtFirst() {
        FloatingDock dock = oneInOneOutside();
        Check.that("in the dock", dock.damageOf(1), 0);
        Check.that("outside", dock.damageOf(2), 0);
    }

    static void promise13_noSuchShip() {
        FloatingDock dock = oneInOneOutside();
        noSuchShip(id -> dock.hoursAfloat(id), dock);
    }

    static void promise13_noHoursAtFirst() {
        FloatingDock dock = oneInOneOutside();
        Check.that("in the dock", dock.hoursAfloat(1), 0);
        dock.pass(1);
        Check.that("one hour in the dock", dock.hoursAfloat(1), 1);
        Check.that("one hour outside", dock.hoursAfloat(2), 0);
    }

    static void promise14_noSuchShip() {
        FloatingDock dock = oneInOneOutside();
        noSuchShip(id -> dock.isAfloat(id), dock);
    }

    static void promise14_trueOutsideTheDock() {
        FloatingDock dock = Docks.atLevel(0);
        dock.addShip(5, 80, 0);
        dock.addShip(5, 5, 0);
        Check.that("draught 80", dock.isAfloat(0), true);
        Check.that("draught 5", dock.isAfloat(1), true);
    }

    // promise 15

    static void promise15_nothingWasRefused() {
        FloatingDock dock = Docks.withShips(10, 10);
        Check.fails("at first", MISSING, () -> dock.refusalReason());
        dock.enter(0, 0);
        Check.fails("after a success", MISSING, () -> dock.refusalReason());
        Check.outcome(() -> dock.enter(1, 51));
        Check.outcome(() -> dock.enter(0, 20));
        Check.outcome(() -> dock.leave(1));
        Check.outcome(() -> dock.placeBlock(5));
        Check.fails("after other exceptions", MISSING, () -> dock.refusalReason());
    }

    static void promise15_reasonsFrom1To4() {
        FloatingDock dock = Docks.openAt(60);
        dock.addShip(10, 58, 0);
        dock.addShip(10, 58, 0);
        dock.addShip(10, 59, 0);
        Check.fails("lacks water", UNSUPPORTED, () -> dock.enter(2, 0));
        Check.that("the first", dock.refusalReason(), 1);
        dock.enter(0, 0);
        Check.fails("overlaps", UNSUPPORTED, () -> dock.enter(1, 9));
        Check.that("the second", dock.refusalReason(), 2);
        dock.setGate(false);
        dock.setPump(-10);
        dock.pass(1);
        dock.setPump(0);
        Docks.openAtTide(dock);
        Check.fails("rests", UNSUPPORTED, () -> dock.leave(0));
        Check.that("the third", dock.refusalReason(), 3);
        dock.setGate(false);
        Docks.pumpTo(dock, 60);
        Docks.openAtTide(dock);
        Check.fails("has a bill", UNSUPPORTED, () -> dock.leave(0));
        Check.that("the fourth", dock.refusalReason(), 4);
    }

    static void promise15_theLastOneIsKept() {
        FloatingDock dock = Docks.withShips(10, 10);
        dock.enter(0, 0);
        dock.pass(1);
        Check.fails("has a bill", UNSUPPORTED, () -> dock.leave(0));
        Check.that("4", dock.refusalReason(), 4);
        Check.fails("overlaps", UNSUPPORTED, () -> dock.enter(1, 0));
        Check.that("2", dock.refusalReason(), 2);
        dock.enter(1, 10);
        dock.pass(1);
        Check.that("still 2", dock.refusalReason(), 2);
    }
}
