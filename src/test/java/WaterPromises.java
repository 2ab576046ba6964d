/** Promises 16 to 25: the gate, the pump, the sea and hours. */
final class WaterPromises {

    private static final Class<?> ARGUMENT = IllegalArgumentException.class;
    private static final Class<?> STATE = IllegalStateException.class;
    private static final Class<?> UNSUPPORTED = UnsupportedOperationException.class;
    private static final int LEAST = Integer.MIN_VALUE;
    private static final int MOST = Integer.MAX_VALUE;

    private WaterPromises() {
    }

    static void runAll() {
        setGate();
        setPump();
        level();
        seaLevel();
        passAtOpenGate();
        passWithRestingShips();
        passWrongly();
        levelAfter();
        hoursUntilAfloat();
    }

    private static void setGate() {
        FloatingDock dock = new FloatingDock();
        Check.that("promise 16: open an open one", dock.setGate(true), true);
        Check.that("promise 16: close an open one", dock.setGate(false), true);
        Check.that("promise 17: closed", dock.isGateOpen(), false);
        Check.that("promise 16: close a closed one", dock.setGate(false), false);
        Check.that("promise 16: open a closed one", dock.setGate(true), false);
        Check.that("promise 17: open", dock.isGateOpen(), true);
        dock.setGate(false);
        dock.pass(1);
        Check.that("promise 16: the sea is 20 higher", dock.setGate(true), false);
        dock.setGate(false);
        dock.setPump(-1);
        dock.pass(1);
        Docks.refuses("promise 16: 41 higher", dock, UNSUPPORTED, () -> dock.setGate(true));
        Check.that("promise 16: still closed", dock.isGateOpen(), false);
        dock.setPump(21);
        dock.pass(1);
        Docks.refuses("promise 16: 40 higher", dock, UNSUPPORTED, () -> dock.setGate(true));
        dock.setPump(-1);
        dock.pass(1);
        Docks.refuses("promise 16: 21 higher", dock, UNSUPPORTED, () -> dock.setGate(true));
        dock.setPump(0);
        dock.pass(2);
        Check.that("promise 16: level", dock.level(), 119);
        Check.that("promise 16: the dock is 19 higher", dock.setGate(true), false);
        dock.setGate(false);
        dock.setPump(-19);
        dock.pass(1);
        Check.that("promise 16: the dock is 20 higher", dock.setGate(true), false);
        dock.setGate(false);
        dock.pass(1);
        dock.setPump(0);
        dock.pass(1);
        Docks.refuses("promise 16: 41 higher in the dock", dock, UNSUPPORTED,
                () -> dock.setGate(true));
        Check.that("promise 16: closing is never refused", dock.setGate(false), false);
        openWithTheDockFarFromTheSea();
    }

    /** A gate that stays open leaves the dock within 20 of the sea after its first hour. */
    private static void openWithTheDockFarFromTheSea() {
        FloatingDock dock = new FloatingDock();
        dock.setGate(false);
        dock.setPump(20);
        dock.pass(1);
        dock.setPump(0);
        dock.pass(1);
        dock.setGate(true);
        dock.pass(1);
        Check.that("promise 16: level of an open dock", dock.level(), 140);
        Check.that("promise 16: opens it again", dock.setGate(true), true);
    }

    private static void setPump() {
        FloatingDock dock = new FloatingDock();
        Check.that("promise 18: from 0", dock.setPump(30), 0);
        Check.that("promise 18: from 30", dock.setPump(-30), 30);
        for (int rate : new int[] {31, -31, LEAST, MOST}) {
            Docks.refuses("promise 18: " + rate, dock, ARGUMENT, () -> dock.setPump(rate));
        }
        Check.that("promise 18: from -30", dock.setPump(0), -30);
        Check.that("promise 18: to 0", dock.setPump(7), 0);
    }

    private static void level() {
        FloatingDock dock = new FloatingDock();
        Check.that("promise 19: initially", dock.level(), 100);
        dock.setGate(false);
        dock.setPump(30);
        dock.pass(3);
        Check.that("promise 19: 190", dock.level(), 190);
        dock.pass(1);
        Check.that("promise 19: 200 at most", dock.level(), 200);
        dock.pass(1);
        Check.that("promise 19: 200 still", dock.level(), 200);
        dock.setPump(-29);
        dock.pass(6);
        Check.that("promise 19: 26", dock.level(), 26);
        dock.pass(1);
        Check.that("promise 19: 0 at least", dock.level(), 0);
        dock.pass(1);
        Check.that("promise 19: 0 still", dock.level(), 0);
        dock.setPump(1);
        dock.pass(1);
        Check.that("promise 19: 1", dock.level(), 1);
    }

    private static void seaLevel() {
        FloatingDock dock = new FloatingDock();
        int[] tide = {40, 60, 80, 100, 120, 140, 160, 140, 120, 100, 80, 60};
        for (int hour = 0; hour < 50; hour++) {
            Check.that("promise 20: " + hour, dock.seaLevel(hour), tide[hour % 12]);
            Check.that("promise 21: " + hour, dock.seaLevelByHours(hour), tide[hour % 12]);
        }
        for (int hour = 9980; hour <= 9999; hour++) {
            Check.that("promise 20: " + hour, dock.seaLevel(hour), tide[hour % 12]);
            Check.that("promise 21: " + hour, dock.seaLevelByHours(hour), tide[hour % 12]);
        }
        for (int hour : new int[] {-1, 10000, LEAST, MOST}) {
            Docks.refuses("promise 20: " + hour, dock, ARGUMENT, () -> dock.seaLevel(hour));
            Docks.refuses("promise 21: " + hour, dock, ARGUMENT, () -> dock.seaLevelByHours(hour));
        }
    }

    private static void passAtOpenGate() {
        FloatingDock dock = Docks.withShips(10, 10);
        dock.enter(1, 0);
        dock.setPump(-30);
        Check.that("promise 22: nothing is removed", dock.pass(1), 0);
        Check.that("promise 22: the pump does nothing", dock.level(), 120);
        Check.that("promise 23: an hour", dock.hour(), 4);
        Check.that("promise 22: afloat", Docks.bill(dock, 1), "#1:2/10~");
        Check.that("promise 22: outside", Docks.bill(dock, 0), "#0:0/0");
        dock.pass(48);
        Check.that("promise 23: 49 hours", dock.hour(), 52);
        Check.that("promise 22: with the sea", dock.level(), 120);
        Check.that("promise 22: 49 hours afloat", dock.hoursAfloat(1), 49);
        Check.that("promise 22: 49 hours charged", dock.billOf(1), 98);
        levels("promise 22: the sea is higher", 5, 125, 145, 140, 120, 100, 80);
        levels("promise 22: the sea is lower", 25, 140, 160, 140, 120, 100, 80);
    }

    /** The gate is closed for the hour 4, in which the pump fills at this rate. */
    private static void levels(String what, int rate, int... due) {
        FloatingDock dock = new FloatingDock();
        dock.setGate(false);
        dock.setPump(rate);
        dock.pass(1);
        dock.setGate(true);
        for (int level : due) {
            dock.pass(1);
            Check.that(what + ", hour " + dock.hour(), dock.level(), level);
        }
    }

    private static void passWithRestingShips() {
        FloatingDock dock = Docks.withBlocks(0, 2, 9, 20, 30, 31, 59);
        dock.addShip(10, 60, 8);
        dock.addShip(10, 60, 8);
        dock.addShip(10, 60, 8);
        dock.addShip(5, 5, 8);
        dock.addShip(5, 60, 8);
        dock.enter(0, 0);
        dock.enter(1, 20);
        dock.enter(2, 30);
        dock.enter(3, 40);
        dock.enter(4, 50);
        dock.setCleaning(0, true);
        dock.setCleaning(1, true);
        dock.setCleaning(3, true);
        dock.setGate(false);
        dock.setPump(-30);
        Check.that("promise 22: all float at 60", dock.pass(1), 0);
        Check.that("promise 22: 2 coins each", dock.billTotal(), 10);
        Check.that("promise 22: 3 units", dock.pass(1), 3);
        Check.that("promise 22: 3 blocks, 3 units", Docks.bill(dock, 0), "#0:16/5_");
        Check.that("promise 22: 1 block", Docks.bill(dock, 1), "#1:4/8!1_");
        Check.that("promise 22: 2 blocks, no cleaning", Docks.bill(dock, 2), "#2:6/8_");
        Check.that("promise 22: afloat", Docks.bill(dock, 3), "#3:4/8~");
        Check.that("promise 22: no block", Docks.bill(dock, 4), "#4:4/8!1_");
        dock.setPump(0);
        Check.that("promise 22: 3 and 2 units", dock.pass(3), 5);
        Check.that("promise 22: clean", Docks.bill(dock, 0), "#0:46/0_");
        Check.that("promise 22: by account", dock.billTotalByAccount(), dock.billTotal());
        Check.that("promise 22: nothing is left to clean", dock.pass(1), 0);
        Check.that("promise 22: goes on without dirt", dock.setCleaning(0, true), true);
        Check.that("promise 22: 5 coins without dirt", dock.billOf(0), 51);
    }

    private static void passWrongly() {
        FloatingDock dock = Docks.withShips(10);
        dock.enter(0, 0);
        for (int hours : new int[] {0, -1, 49, LEAST, MOST}) {
            Docks.refuses("promise 22: " + hours, dock, ARGUMENT, () -> dock.pass(hours));
        }
        Check.that("promise 23: initially", new FloatingDock().hour(), 3);
        dock.pass(2);
        Check.that("promise 23: 2 more", dock.hour(), 5);
        FloatingDock old = new FloatingDock();
        for (int i = 0; i < 300; i++) {
            old.pass(48);
        }
        Check.that("promise 23: beyond 9999", old.hour(), 14403);
        Check.that("promise 19: beyond 9999", old.level(), 100);
        Check.that("promise 24: beyond 9999", old.levelAfter(3), 160);
        Check.that("promise 53: beyond 9999", old.isConsistent(), true);
    }

    private static void levelAfter() {
        FloatingDock dock = new FloatingDock();
        Check.that("promise 24: now", dock.levelAfter(0), 100);
        Check.that("promise 24: 3", dock.levelAfter(3), 160);
        Check.that("promise 24: 9", dock.levelAfter(9), 40);
        Check.that("promise 24: 96", dock.levelAfter(96), 100);
        dock.setGate(false);
        dock.setPump(30);
        Check.that("promise 24: pumped", dock.levelAfter(3), 190);
        Check.that("promise 24: full", dock.levelAfter(96), 200);
        dock.setPump(-30);
        Check.that("promise 24: emptied", dock.levelAfter(4), 0);
        Check.that("promise 24: no hour passes", dock.hour(), 3);
        Check.that("promise 24: the level stays", dock.level(), 100);
        for (int hours : new int[] {-1, 97, LEAST, MOST}) {
            Docks.refuses("promise 24: " + hours, dock, ARGUMENT, () -> dock.levelAfter(hours));
        }
    }

    private static void hoursUntilAfloat() {
        FloatingDock dock = Docks.withBlocks();
        dock.addShip(10, 80, 0);
        dock.addShip(10, 20, 0);
        dock.addShip(10, 80, 0);
        dock.enter(0, 0);
        dock.enter(1, 10);
        Check.that("promise 25: now", dock.hoursUntilAfloat(0), 0);
        dock.pass(1);
        Check.that("promise 25: with the tide", dock.hoursUntilAfloat(0), 3);
        Check.that("promise 25: another floats now", dock.hoursUntilAfloat(1), 0);
        Check.that("promise 25: outside", dock.hoursUntilAfloat(2), 0);
        dock.setGate(false);
        Check.that("promise 25: pumped 70 to 100", dock.hoursUntilAfloat(0), 1);
        dock.setPump(0);
        Docks.refuses("promise 25: never", dock, STATE, () -> dock.hoursUntilAfloat(0));
        dock.setPump(-30);
        dock.pass(3);
        dock.setPump(1);
        Check.that("promise 25: level", dock.level(), 0);
        Check.that("promise 25: 80 hours", dock.hoursUntilAfloat(0), 80);
        longWaits();
    }

    private static void longWaits() {
        FloatingDock dock = Docks.withBlocks();
        dock.addShip(10, 80, 0);
        dock.enter(0, 0);
        Docks.drain(dock);
        dock.setPump(1);
        Check.that("promise 25: 80 hours from 0", dock.hoursUntilAfloat(0), 80);
        dock.pass(48);
        Check.that("promise 25: 32 hours are left", dock.hoursUntilAfloat(0), 32);
        dock.pass(32);
        Check.that("promise 25: afloat at last", dock.hoursUntilAfloat(0), 0);
        FloatingDock tidal = Docks.withBlocks();
        tidal.addShip(10, 80, 0);
        tidal.enter(0, 0);
        tidal.pass(4);
        Check.that("promise 25: level at the hour 14", tidal.level(), 80);
        Check.that("promise 25: the draught", tidal.hoursUntilAfloat(0), 0);
        tidal.undo();
        tidal.pass(3);
        Check.that("promise 25: at the hour 13", tidal.hoursUntilAfloat(0), 1);
        tidal.undo();
        tidal.pass(2);
        Check.that("promise 25: at the hour 12", tidal.hoursUntilAfloat(0), 2);
        tidal.undo();
        Check.that("promise 25: at the hour 10", tidal.hoursUntilAfloat(0), 0);
    }
}
