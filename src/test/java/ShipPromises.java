import java.util.NoSuchElementException;

/** Promises 1 to 15: a new object, and ships. */
final class ShipPromises {

    private static final Class<?> ARGUMENT = IllegalArgumentException.class;
    private static final Class<?> STATE = IllegalStateException.class;
    private static final Class<?> MISSING = NoSuchElementException.class;
    private static final Class<?> INDEX = IndexOutOfBoundsException.class;

    private ShipPromises() {
    }

    static void runAll() {
        newObject();
        addShip();
        addShipWrongly();
        addShipAfterOthers();
        eightShips();
        removeShip();
        enter();
        enterWrongly();
        enterRefused();
        leave();
        leaveRefused();
        setCleaning();
        shipCountAndPlaces();
        lookups();
        afloat();
        refusalReason();
        unknownShips();
    }

    private static void newObject() {
        FloatingDock dock = new FloatingDock();
        Check.that("promise 1: all of it", Docks.picture(dock), "0 true 100 3 120 0 0 0 ^");
        Check.that("promise 1: the rate is 0", dock.setPump(5), 0);
        Check.fails("promise 1: no reason", MISSING, () -> dock.refusalReason());
        Check.fails("promise 1: no error", MISSING, () -> dock.errorPosition());
        Check.fails("promise 1: no failure", MISSING, () -> dock.failedCommand());
        Check.fails("promise 1: empty line", INDEX, () -> dock.lineAt(0));
        Check.fails("promise 1: no snapshot", STATE, () -> dock.restore());
        Check.fails("promise 1: nothing to undo", STATE, () -> new FloatingDock().undo());
        Check.that("promise 1: the first id", dock.addShip(5, 5, 0), 0);
        Check.that("promise 1: empty command text", dock.append('o'), 1);
    }

    private static void addShip() {
        FloatingDock dock = new FloatingDock();
        Check.that("promise 2: the least", dock.addShip(5, 5, 0), 0);
        Check.that("promise 2: the most", dock.addShip(30, 80, 99), 1);
        Check.that("promise 2: dirt", dock.dirtOf(1), 99);
        Check.that("promise 2: outside", dock.isInDock(1), false);
        Check.that("promise 2: no bill", Docks.bill(dock, 1), "#1:0/99");
        Check.that("promise 2: length", dock.enter(1, 30), 1);
        Check.that("promise 2: takes its length", dock.freeMetres(), 30);
        dock.removeShip(0);
        Check.that("promise 2: ids are not given again", dock.addShip(6, 6, 6), 2);
        dock.removeShip(2);
        Check.that("promise 2: not even the last one", dock.addShip(6, 6, 6), 3);
        Check.that("promise 2: a row used again is clean", Docks.bill(dock, 3), "#3:0/6");
    }

    private static void addShipWrongly() {
        FloatingDock dock = Docks.withShips(5, 5, 5, 5, 5, 5, 5);
        int[][] wrong = {{4, 5, 0}, {31, 5, 0}, {5, 4, 0}, {5, 81, 0}, {5, 5, -1}, {5, 5, 100},
            {Integer.MIN_VALUE, 5, 0}, {Integer.MAX_VALUE, 5, 0}, {5, Integer.MIN_VALUE, 0},
            {5, Integer.MAX_VALUE, 0}, {5, 5, Integer.MIN_VALUE}, {5, 5, Integer.MAX_VALUE}};
        for (int[] n : wrong) {
            Docks.refuses("promise 2: " + n[0] + " " + n[1] + " " + n[2], dock, ARGUMENT,
                    () -> dock.addShip(n[0], n[1], n[2]));
        }
        Check.that("promise 2: wrong numbers take no id", dock.addShip(5, 5, 0), 7);
        Docks.refuses("promise 2: a ninth", dock, STATE, () -> dock.addShip(5, 5, 0));
        Docks.refuses("promise 2: wrong and a ninth", dock, ARGUMENT, () -> dock.addShip(4, 5, 0));
        dock.removeShip(3);
        Check.that("promise 2: no id for the ninth", dock.addShip(5, 5, 0), 8);
    }

    /** Nothing of a ship that is gone, by removing or restoring, may be left to a later one. */
    private static void addShipAfterOthers() {
        FloatingDock dock = Docks.withBlocks(10, 11);
        dock.save();
        Docks.addShips(dock, 10, 10);
        dock.enter(0, 0);
        dock.enter(1, 10);
        dock.setCleaning(1, true);
        Docks.drain(dock);
        Check.that("promise 2: an old ship", Docks.bill(dock, 0), "#0:6/0!1_");
        dock.restore();
        Check.that("promise 34: nothing is taken", dock.freeMetres(), 60);
        Docks.addShips(dock, 10, 10);
        Check.that("promise 2: a new ship", Docks.bill(dock, 0), "#0:0/0");
        Check.that("promise 2: no hours afloat", dock.hoursAfloat(0), 0);
        Check.that("promise 2: another new ship", Docks.bill(dock, 1), "#1:0/10");
        Check.that("promise 4: the only one", dock.enter(1, 10), 1);
        Check.that("promise 2: is not cleaned", dock.setCleaning(1, true), false);
    }

    private static void eightShips() {
        FloatingDock dock = Docks.withShips(5, 5, 5, 5, 5, 5, 5, 5);
        for (int ship = 0; ship < 8; ship++) {
            Check.that("promise 4: ship " + ship, dock.enter(ship, 6 * ship), ship + 1);
        }
        Check.that("promise 34: 40 are taken", dock.freeMetres(), 20);
        Check.that("promise 31: the last ship", dock.shipAtPosition(46), 7);
        dock.pass(1);
        Check.that("promise 40: 2 coins each", dock.billTotal(), 16);
        Check.that("promise 43: the last rank", dock.shipAtRank(7), 0);
        Check.that("promise 53: eight ships", dock.isConsistent(), true);
        dock.pay(7, 2);
        Check.that("promise 5: seven are left", dock.leave(7), 7);
        Check.that("promise 3: the eighth", dock.removeShip(7), 70);
    }

    private static void removeShip() {
        FloatingDock dock = Docks.withShips(5, 5, 5);
        Check.that("promise 3: the dirt", dock.removeShip(1), 10);
        Check.that("promise 3: one less", dock.shipCount(), 2);
        Check.that("promise 3: the others stay", dock.shipAt(1), 2);
        Docks.refuses("promise 3: removed", dock, MISSING, () -> dock.removeShip(1));
        dock.enter(2, 0);
        Docks.refuses("promise 3: in the dock, no bill", dock, STATE, () -> dock.removeShip(2));
        dock.pass(1);
        Docks.refuses("promise 3: in the dock, a bill", dock, STATE, () -> dock.removeShip(2));
        dock.pay(2, 2);
        dock.leave(2);
        Check.that("promise 3: after leaving", dock.removeShip(2), 20);
        Check.that("promise 3: the last one", dock.removeShip(0), 0);
        Check.that("promise 3: none is left", dock.shipCount(), 0);
    }

    private static void enter() {
        FloatingDock dock = Docks.withShips(10, 10, 10, 30);
        Check.that("promise 4: the first", dock.enter(1, 10), 1);
        Check.that("promise 4: beside it on the left", dock.enter(0, 0), 2);
        Check.that("promise 4: beside it on the right", dock.enter(2, 20), 3);
        Check.that("promise 4: up to the end", dock.enter(3, 30), 4);
        Check.that("promise 4: positions", dock.positionOf(3), 30);
        Check.that("promise 4: all is taken", dock.freeMetres(), 0);
        dock.setCleaning(0, true);
        dock.leave(0);
        dock.enter(0, 0);
        Check.that("promise 4: is not cleaned", dock.setCleaning(0, false), false);
        FloatingDock deep = new FloatingDock();
        deep.addShip(5, 80, 0);
        deep.setGate(false);
        deep.setPump(-18);
        deep.pass(1);
        deep.setGate(false);
        deep.setPump(0);
        deep.pass(10);
        deep.setGate(true);
        Check.that("promise 4: just deep enough", deep.enter(0, 0), 1);
        Check.that("promise 4: at the level 82", deep.level(), 82);
    }

    private static void enterWrongly() {
        FloatingDock dock = Docks.withShips(10, 10);
        dock.enter(0, 0);
        Docks.refuses("promise 4: no ship, wrong position", dock, MISSING, () -> dock.enter(2, -1));
        Docks.refuses("promise 4: no ship", dock, MISSING, () -> dock.enter(-1, 0));
        int[] wrong = {-1, 51, 60, Integer.MAX_VALUE, Integer.MIN_VALUE, Integer.MAX_VALUE - 5};
        for (int position : wrong) {
            Docks.refuses("promise 4: at " + position, dock, ARGUMENT,
                    () -> dock.enter(1, position));
        }
        Docks.refuses("promise 4: in the dock, at 51", dock, ARGUMENT, () -> dock.enter(0, 51));
        Docks.refuses("promise 4: in the dock", dock, STATE, () -> dock.enter(0, 20));
        dock.setGate(false);
        Docks.refuses("promise 4: closed, at -1", dock, ARGUMENT, () -> dock.enter(1, -1));
        Docks.refuses("promise 4: closed, would overlap", dock, STATE, () -> dock.enter(1, 5));
        dock.setGate(true);
        Check.that("promise 4: ends at 59", dock.enter(1, 50), 2);
    }

    private static void enterRefused() {
        FloatingDock dock = Docks.withBlocks();
        dock.addShip(10, 40, 0);
        dock.addShip(10, 80, 0);
        dock.addShip(10, 60, 0);
        dock.enter(0, 20);
        dock.pass(1);
        Check.that("promise 4: the level falls", dock.level(), 70);
        Docks.refusesFor("promise 4: shallow and overlapping", dock, 1, () -> dock.enter(1, 20));
        Docks.refusesFor("promise 4: overlapping at its left", dock, 2, () -> dock.enter(2, 11));
        Docks.refusesFor("promise 4: shallow", dock, 1, () -> dock.enter(1, 0));
        Docks.refusesFor("promise 4: overlapping at its right", dock, 2, () -> dock.enter(2, 29));
        dock.setGate(false);
        dock.setPump(-9);
        dock.pass(1);
        dock.setPump(0);
        dock.pass(1);
        Check.that("promise 4: level", dock.level(), 61);
        dock.pass(1);
        dock.setGate(true);
        Docks.refusesFor("promise 4: floats but lacks 1", dock, 1, () -> dock.enter(2, 0));
        Check.that("promise 4: floats", dock.isAfloat(2), true);
    }

    private static void leave() {
        FloatingDock dock = Docks.withShips(10, 10, 10);
        Docks.refuses("promise 5: no ship", dock, MISSING, () -> dock.leave(3));
        Docks.refuses("promise 5: outside", dock, STATE, () -> dock.leave(0));
        dock.enter(0, 0);
        dock.enter(1, 10);
        dock.setCleaning(0, true);
        Check.that("promise 5: one is left", dock.leave(0), 1);
        Check.that("promise 5: outside now", dock.isInDock(0), false);
        Check.that("promise 5: gives its metres", dock.freeMetres(), 50);
        dock.enter(0, 0);
        Check.that("promise 5: not cleaned any longer", dock.setCleaning(0, true), false);
        dock.setGate(false);
        Docks.refuses("promise 5: the gate is closed", dock, STATE, () -> dock.leave(0));
        dock.pass(1);
        Docks.refuses("promise 5: closed, a bill", dock, STATE, () -> dock.leave(0));
        Docks.refuses("promise 5: closed, outside", dock, STATE, () -> dock.leave(2));
        dock.setGate(true);
        dock.pay(0, 2);
        dock.pay(1, 2);
        dock.leave(1);
        Check.that("promise 5: none is left", dock.leave(0), 0);
    }

    private static void leaveRefused() {
        FloatingDock dock = Docks.withBlocks();
        dock.addShip(10, 80, 0);
        dock.enter(0, 0);
        dock.pass(1);
        Docks.refusesFor("promise 5: rests, with a bill", dock, 3, () -> dock.leave(0));
        dock.pay(0, 2);
        Docks.refusesFor("promise 5: rests, no bill", dock, 3, () -> dock.leave(0));
        dock.pass(5);
        Check.that("promise 5: the level is that of the sea", dock.level(), 120);
        Docks.refusesFor("promise 5: floats, with a bill", dock, 4, () -> dock.leave(0));
        dock.pay(0, 9);
        Docks.refusesFor("promise 5: floats, 1 coin", dock, 4, () -> dock.leave(0));
        dock.pay(0, 1);
        Check.that("promise 5: paid", dock.leave(0), 0);
    }

    private static void setCleaning() {
        FloatingDock dock = Docks.withBlocks(0, 1);
        dock.addShip(10, 20, 50);
        Docks.refuses("promise 6: no ship", dock, MISSING, () -> dock.setCleaning(1, true));
        Docks.refuses("promise 6: outside", dock, STATE, () -> dock.setCleaning(0, true));
        Docks.refuses("promise 6: outside, to stop", dock, STATE,
                () -> dock.setCleaning(0, false));
        dock.enter(0, 0);
        Check.that("promise 6: was not", dock.setCleaning(0, true), false);
        Check.that("promise 6: was", dock.setCleaning(0, true), true);
        Docks.drain(dock);
        Check.that("promise 6: is cleaned", dock.dirtOf(0), 47);
        Check.that("promise 6: stops", dock.setCleaning(0, false), true);
        dock.pass(1);
        Check.that("promise 6: is not cleaned", dock.dirtOf(0), 47);
        Check.that("promise 6: stopped", dock.setCleaning(0, false), false);
    }

    private static void shipCountAndPlaces() {
        FloatingDock dock = new FloatingDock();
        Check.that("promise 7: none", dock.shipCount(), 0);
        Check.fails("promise 8: none", INDEX, () -> dock.shipAt(0));
        for (int i = 0; i < 8; i++) {
            dock.addShip(5, 5, i);
        }
        Check.that("promise 7: eight", dock.shipCount(), 8);
        dock.removeShip(0);
        dock.removeShip(4);
        dock.removeShip(7);
        dock.addShip(5, 5, 5);
        dock.enter(5, 0);
        Check.that("promise 7: in and outside the dock", dock.shipCount(), 6);
        int[] due = {1, 2, 3, 5, 6, 8};
        for (int place = 0; place < due.length; place++) {
            Check.that("promise 8: place " + place, dock.shipAt(place), due[place]);
        }
        for (int place : new int[] {-1, 6, 7, 8, Integer.MAX_VALUE, Integer.MIN_VALUE}) {
            Check.fails("promise 8: place " + place, INDEX, () -> dock.shipAt(place));
        }
    }

    private static void lookups() {
        FloatingDock dock = Docks.withBlocks(0, 1);
        dock.addShip(10, 20, 50);
        dock.addShip(10, 80, 7);
        Check.that("promise 9: outside", dock.isInDock(0), false);
        Docks.refuses("promise 10: outside", dock, STATE, () -> dock.positionOf(0));
        dock.enter(0, 0);
        dock.enter(1, 50);
        Check.that("promise 9: in the dock", dock.isInDock(0), true);
        Check.that("promise 10: 0", dock.positionOf(0), 0);
        Check.that("promise 10: 50", dock.positionOf(1), 50);
        dock.setCleaning(0, true);
        Docks.drain(dock);
        dock.pass(2);
        Check.that("promise 11: cleaned", dock.dirtOf(0), 41);
        Check.that("promise 11: not cleaned", dock.dirtOf(1), 7);
        Check.that("promise 12: on blocks", dock.damageOf(0), 0);
        Check.that("promise 12: on no blocks", dock.damageOf(1), 5);
        Check.that("promise 13: 2 of 5 hours", dock.hoursAfloat(0), 2);
        Check.that("promise 13: none", dock.hoursAfloat(1), 0);
        dock.setPump(30);
        dock.pass(4);
        Check.that("promise 13: goes on", dock.hoursAfloat(0), 6);
        Check.that("promise 12: 2 more, then it floats", dock.damageOf(1), 7);
        dock.pay(0, dock.billOf(0));
        dock.setGate(true);
        dock.leave(0);
        Check.that("promise 13: after leaving", dock.hoursAfloat(0), 6);
        Check.that("promise 9: left", dock.isInDock(0), false);
        dock.pass(1);
        Check.that("promise 13: outside no hour counts", dock.hoursAfloat(0), 6);
        dock.enter(0, 20);
        dock.pass(1);
        Check.that("promise 13: in the dock again", dock.hoursAfloat(0), 7);
        Check.that("promise 10: elsewhere now", dock.positionOf(0), 20);
    }

    private static void afloat() {
        FloatingDock dock = Docks.withBlocks();
        dock.addShip(10, 60, 50);
        dock.addShip(10, 61, 50);
        dock.enter(0, 0);
        dock.enter(1, 10);
        dock.setGate(false);
        dock.setPump(-30);
        dock.pass(1);
        Check.that("promise 14: the level is the draught", dock.isAfloat(0), true);
        Check.that("promise 14: the level is 1 less", dock.isAfloat(1), false);
        FloatingDock low = Docks.empty();
        low.addShip(5, 80, 0);
        Check.that("promise 14: outside", low.isAfloat(0), true);
    }

    private static void refusalReason() {
        FloatingDock dock = Docks.withShips(10, 10);
        Docks.refuses("promise 15: none", dock, MISSING, () -> dock.refusalReason());
        dock.enter(0, 0);
        Docks.refusesFor("promise 15: overlap", dock, 2, () -> dock.enter(1, 0));
        dock.undo();
        Check.that("promise 15: not undone", dock.refusalReason(), 2);
        dock.save();
        dock.enter(0, 0);
        dock.pass(1);
        Docks.refusesFor("promise 15: the last one", dock, 4, () -> dock.leave(0));
        dock.restore();
        Check.that("promise 15: not restored", dock.refusalReason(), 4);
        Check.fails("promise 15: another exception", MISSING, () -> dock.leave(9));
        Check.that("promise 15: is left", dock.refusalReason(), 4);
        dock.enter(0, 0);
        Check.that("promise 15: success leaves it", dock.refusalReason(), 4);
    }

    private static void unknownShips() {
        FloatingDock dock = Docks.withShips(5, 5);
        dock.removeShip(0);
        for (int id : new int[] {0, 2, -1, Integer.MAX_VALUE, Integer.MIN_VALUE}) {
            Docks.refuses("promise 9: " + id, dock, MISSING, () -> dock.isInDock(id));
            Docks.refuses("promise 10: " + id, dock, MISSING, () -> dock.positionOf(id));
            Docks.refuses("promise 11: " + id, dock, MISSING, () -> dock.dirtOf(id));
            Docks.refuses("promise 12: " + id, dock, MISSING, () -> dock.damageOf(id));
            Docks.refuses("promise 13: " + id, dock, MISSING, () -> dock.hoursAfloat(id));
            Docks.refuses("promise 14: " + id, dock, MISSING, () -> dock.isAfloat(id));
            Docks.refuses("promise 25: " + id, dock, MISSING, () -> dock.hoursUntilAfloat(id));
            Docks.refuses("promise 29: " + id, dock, MISSING, () -> dock.blocksBeneath(id));
            Docks.refuses("promise 30: " + id, dock, MISSING, () -> dock.blocksBeneathByBlocks(id));
            Docks.refuses("promise 38: " + id, dock, MISSING, () -> dock.billOf(id));
            Docks.refuses("promise 39: " + id, dock, MISSING, () -> dock.pay(id, 0));
            Docks.refuses("promise 49: " + id, dock, MISSING, () -> dock.describeBill(id));
        }
    }
}
