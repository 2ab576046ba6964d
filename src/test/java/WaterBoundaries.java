import java.util.NoSuchElementException;

/** Promises 16 to 25, each sentence that names a boundary. */
final class WaterBoundaries {

    private static final Class<?> ARGUMENT = IllegalArgumentException.class;
    private static final Class<?> STATE = IllegalStateException.class;
    private static final Class<?> MISSING = NoSuchElementException.class;
    private static final Class<?> UNSUPPORTED = UnsupportedOperationException.class;
    private static final int[] TIDE = {40, 60, 80, 100, 120, 140, 160, 140, 120, 100, 80, 60};

    private WaterBoundaries() {
    }

    // promise 16

    /** At each hour of the tide, and each level near to that of the sea. */
    static void promise16_notIfTheLevelsDifferByMoreThan20() {
        for (int difference = -23; difference <= 23; difference++) {
            for (int k = 0; k < 12; k++) {
                FloatingDock dock = Docks.atLevel(TIDE[k] + difference);
                Docks.passUntil(dock, 120 + k);
                Object due = Math.abs(difference) <= 20 ? false : Check.thrown(UNSUPPORTED);
                String what = "hour " + k + ", difference " + difference;
                Check.that(what, Check.outcome(() -> dock.setGate(true)), due);
                Check.that(what + ", open", dock.isGateOpen(), due.equals(false));
            }
        }
    }

    static void promise16_differenceOf20And21() {
        FloatingDock higher = Docks.atLevel(120);
        Docks.passUntil(higher, 15);
        Check.that("20 above the sea", higher.setGate(true), false);
        FloatingDock tooHigh = Docks.atLevel(121);
        Docks.passUntil(tooHigh, 15);
        Check.fails("21 above the sea", UNSUPPORTED, () -> tooHigh.setGate(true));
        FloatingDock lower = Docks.atLevel(80);
        Docks.passUntil(lower, 15);
        Check.that("20 below the sea", lower.setGate(true), false);
        FloatingDock tooLow = Docks.atLevel(79);
        Docks.passUntil(tooLow, 15);
        Check.fails("21 below the sea", UNSUPPORTED, () -> tooLow.setGate(true));
    }

    static void promise16_closingIsNeverRefused() {
        FloatingDock dock = Docks.atLevel(200);
        Docks.passUntil(dock, 24);
        Check.that("160 above the sea", dock.setGate(false), false);
        Docks.pumpTo(dock, 0);
        Docks.passUntil(dock, 42);
        Check.that("160 below the sea", dock.setGate(false), false);
    }

    /** An open dock follows the sea within 20, so an open gate can always be opened. */
    static void promise16_openingAnOpenGate() {
        for (int difference = -20; difference <= 20; difference++) {
            FloatingDock dock = Docks.atLevel(100 + difference);
            Docks.passUntil(dock, 15);
            dock.setGate(true);
            for (int hour = 0; hour < 13; hour++) {
                Check.that("difference " + difference, dock.setGate(true), true);
                dock.pass(1);
            }
        }
    }

    /** The level is put there by force, as no call brings an open dock so far from the sea. */
    static void promise16_evenIfItIsOpen() {
        for (int level : new int[] {0, 79, 80, 100, 120, 121, 200}) {
            FloatingDock dock = new FloatingDock();
            Spoiler.put(dock, "now.waterLevel", level);
            Object due = level >= 80 && level <= 120 ? true : Check.thrown(UNSUPPORTED);
            Check.that("level " + level, Check.outcome(() -> dock.setGate(true)), due);
            Check.that("level " + level + ", still open", dock.isGateOpen(), true);
            Check.that("level " + level + ", closes", dock.setGate(false), true);
        }
    }

    static void promise16_returnsWhetherItWasOpenBefore() {
        FloatingDock dock = new FloatingDock();
        Check.that("open an open one", dock.setGate(true), true);
        Check.that("close an open one", dock.setGate(false), true);
        Check.that("close a closed one", dock.setGate(false), false);
        Check.that("open a closed one", dock.setGate(true), false);
    }

    static void promise17_openAndClosed() {
        FloatingDock dock = new FloatingDock();
        Check.that("initially", dock.isGateOpen(), true);
        dock.setGate(false);
        Check.that("closed", dock.isGateOpen(), false);
        dock.pass(1);
        dock.setPump(-1);
        dock.pass(1);
        Check.fails("is refused", UNSUPPORTED, () -> dock.setGate(true));
        Check.that("still closed", dock.isGateOpen(), false);
    }

    // promises 18 and 19

    static void promise18_rateFromMinus30To30() {
        Check.range(-30, 30, ARGUMENT, rate -> new FloatingDock().setPump(rate));
    }

    static void promise18_returnsThePreviousRate() {
        FloatingDock dock = new FloatingDock();
        Check.that("initially", dock.setPump(-30), 0);
        Check.that("the least", dock.setPump(30), -30);
        Check.that("the most", dock.setPump(0), 30);
        Check.fails("out of range", ARGUMENT, () -> dock.setPump(31));
        Check.that("none", dock.setPump(0), 0);
    }

    static void promise19_initially100() {
        Check.that("level", new FloatingDock().level(), 100);
    }

    static void promise19_from0To200() {
        FloatingDock dock = Docks.atLevel(199);
        dock.setPump(1);
        dock.pass(1);
        Check.that("full", dock.level(), 200);
        dock.pass(48);
        Check.that("no more", dock.level(), 200);
        FloatingDock low = Docks.atLevel(1);
        low.setPump(-1);
        low.pass(1);
        Check.that("empty", low.level(), 0);
        low.pass(48);
        Check.that("no less", low.level(), 0);
    }

    // promises 20 and 21

    static void promise20_hourFrom0To9999() {
        Check.range(0, 9999, ARGUMENT, hour -> new FloatingDock().seaLevel(hour));
    }

    static void promise20_hourModulo12() {
        for (int hour = 0; hour <= 9999; hour++) {
            Check.that("hour " + hour, new FloatingDock().seaLevel(hour), TIDE[hour % 12]);
        }
    }

    static void promise20_theLastHour() {
        Check.that("9999 is 3 after 9996", new FloatingDock().seaLevel(9999), 100);
    }

    static void promise21_hourFrom0To9999() {
        Check.range(0, 9999, ARGUMENT, hour -> new FloatingDock().seaLevelByHours(hour));
    }

    static void promise21_sameAsSeaLevel() {
        for (int hour = 0; hour <= 9999; hour++) {
            Check.that("hour " + hour, new FloatingDock().seaLevelByHours(hour),
                    TIDE[hour % 12]);
        }
    }

    static void promise21_theLastHour() {
        Check.that("9999 is 3 after 9996", new FloatingDock().seaLevelByHours(9999), 100);
    }

    // promises 22 and 23

    static void promise22_hoursFrom1To48() {
        Check.range(1, 48, ARGUMENT, hours -> new FloatingDock().pass(hours));
        Check.fails("0", ARGUMENT, () -> new FloatingDock().pass(0));
        Check.fails("49", ARGUMENT, () -> new FloatingDock().pass(49));
    }

    static void promise22_asManyHoursAsTold() {
        for (int hours = 1; hours <= 48; hours++) {
            FloatingDock dock = Docks.withShips(10);
            dock.enter(0, 0);
            dock.pass(hours);
            Check.that(hours + ", hour", dock.hour(), 3 + hours);
            Check.that(hours + ", level", dock.level(), TIDE[(3 + hours) % 12]);
            Check.that(hours + ", afloat", dock.hoursAfloat(0), hours);
        }
    }

    static void promise22_returnsWhatIsRemovedFromNoShips() {
        Check.that("no ships", new FloatingDock().pass(48), 0);
        Check.that("none in the dock", Docks.withShips(10, 10).pass(48), 0);
    }

    /** In the hours, of all ships: 3 and 3, 3 and 3, 3 and 1, 1 and 0, then nothing. */
    static void promise22_returnsWhatIsRemovedInAllHoursFromAllShips() {
        int[] removed = {0, 6, 12, 16, 17, 17, 17};
        for (int hours = 1; hours < removed.length; hours++) {
            FloatingDock dock = Docks.withBlocks(0, 1, 10, 11, 12, 20, 21);
            dock.addShip(10, 80, 10);
            dock.addShip(10, 80, 7);
            dock.addShip(10, 80, 50);
            dock.enter(0, 0);
            dock.enter(1, 10);
            dock.enter(2, 20);
            dock.setCleaning(0, true);
            dock.setCleaning(1, true);
            dock.setGate(false);
            dock.setPump(-30);
            Check.that(hours + " hours", dock.pass(hours), removed[hours]);
            Check.that(hours + " hours, the rest", dock.dirtOf(0) + dock.dirtOf(1),
                    17 - removed[hours]);
            Check.that(hours + " hours, not cleaned", dock.dirtOf(2), 50);
        }
    }

    static void promise23_initially3() {
        Check.that("hour", new FloatingDock().hour(), 3);
    }

    static void promise23_beyondTheHoursOfTheSea() {
        FloatingDock dock = Docks.atHour(9999);
        Check.that("the last one of the sea", dock.hour(), 9999);
        dock.pass(1);
        Check.that("the next", dock.hour(), 10000);
        dock.pass(48);
        Check.that("later", dock.hour(), 10048);
    }

    // promise 24

    static void promise24_hoursFrom0To96() {
        FloatingDock open = new FloatingDock();
        Check.range(0, 96, ARGUMENT, hours -> open.levelAfter(hours));
        FloatingDock closed = Docks.atLevel(50);
        Check.range(0, 96, ARGUMENT, hours -> closed.levelAfter(hours));
    }

    static void promise24_asAfterPassing() {
        for (int rate : new int[] {-30, -1, 0, 1, 30}) {
            for (int hours = 0; hours <= 96; hours++) {
                FloatingDock closed = Docks.atLevel(100);
                closed.setPump(rate);
                levelAfterIsThatAfterPassing(closed, hours);
            }
        }
        for (int level : new int[] {80, 81, 99, 100, 101, 120}) {
            for (int hours = 0; hours <= 96; hours++) {
                levelAfterIsThatAfterPassing(Docks.openAt(level), hours);
            }
        }
    }

    private static void levelAfterIsThatAfterPassing(FloatingDock dock, int hours) {
        int foreseen = dock.levelAfter(hours);
        int target = dock.hour() + hours;
        Docks.passUntil(dock, target);
        Check.that("after " + hours, foreseen, dock.level());
    }

    static void promise24_0HoursIsNow() {
        FloatingDock dock = Docks.atLevel(77);
        dock.setPump(30);
        Check.that("now", dock.levelAfter(0), 77);
        Check.that("in an hour", dock.levelAfter(1), 107);
    }

    static void promise24_staysFrom0To200() {
        FloatingDock dock = Docks.atLevel(100);
        dock.setPump(30);
        Check.that("3 hours", dock.levelAfter(3), 190);
        Check.that("4 hours", dock.levelAfter(4), 200);
        Check.that("96 hours", dock.levelAfter(96), 200);
        dock.setPump(-30);
        Check.that("3 hours down", dock.levelAfter(3), 10);
        Check.that("4 hours down", dock.levelAfter(4), 0);
        Check.that("96 hours down", dock.levelAfter(96), 0);
    }

    static void promise24_changesNothing() {
        Whole.Maker maker = () -> {
            FloatingDock dock = Docks.withShips(10);
            dock.enter(0, 0);
            dock.setPump(-5);
            return dock;
        };
        Whole.same("asked", () -> {
            FloatingDock dock = maker.make();
            dock.levelAfter(96);
            return dock;
        }, maker);
    }

    // promise 25

    /** At the level 0, with the gate closed, and a ship of this draught in the dock. */
    private static FloatingDock stranded(int draught) {
        FloatingDock dock = Docks.openAt(100);
        dock.addShip(10, draught, 0);
        dock.enter(0, 0);
        dock.setGate(false);
        Docks.pumpTo(dock, 0);
        return dock;
    }

    static void promise25_noSuchShip() {
        FloatingDock dock = stranded(50);
        dock.setPump(1);
        for (int id : new int[] {1, -1, 256, Integer.MIN_VALUE, Integer.MAX_VALUE}) {
            Check.fails("" + id, MISSING, () -> dock.hoursUntilAfloat(id));
        }
        Check.fails("no ships", MISSING, () -> new FloatingDock().hoursUntilAfloat(0));
    }

    static void promise25_0IfItIsAfloatNow() {
        FloatingDock dock = stranded(50);
        Docks.pumpTo(dock, 50);
        Check.that("the level is the draught", dock.hoursUntilAfloat(0), 0);
        dock.setPump(-30);
        Check.that("for the last time", dock.hoursUntilAfloat(0), 0);
        dock.setPump(0);
        Check.that("for ever", dock.hoursUntilAfloat(0), 0);
    }

    static void promise25_0OutsideTheDock() {
        FloatingDock dock = Docks.atLevel(0);
        dock.addShip(10, 80, 0);
        Check.that("never entered", dock.hoursUntilAfloat(0), 0);
    }

    static void promise25_forTheFirstTime() {
        FloatingDock dock = stranded(50);
        dock.setPump(25);
        Check.that("50 are reached", dock.hoursUntilAfloat(0), 2);
        dock.setPump(24);
        Check.that("48 do not do", dock.hoursUntilAfloat(0), 3);
        dock.setPump(0);
        dock.pass(1);
        Docks.pumpTo(dock, 49);
        dock.setPump(1);
        Check.that("1 lacks", dock.hoursUntilAfloat(0), 1);
    }

    /** No wait that ends is longer than from the level 0 to the draught 80 by 1 each hour. */
    static void promise25_within96Hours() {
        FloatingDock dock = stranded(80);
        dock.setPump(1);
        Check.that("the longest", dock.hoursUntilAfloat(0), 80);
        dock.pass(1);
        Check.that("one less", dock.hoursUntilAfloat(0), 79);
        dock.pass(48);
        dock.pass(30);
        Check.that("the last one", dock.hoursUntilAfloat(0), 1);
        dock.pass(1);
        Check.that("none", dock.hoursUntilAfloat(0), 0);
    }

    /** The draught is made greater by force, as that of no ship lets it wait for so long. */
    static void promise25_just96Hours() {
        FloatingDock dock = stranded(80);
        dock.setPump(1);
        Spoiler.put(dock, "now.ships.rows.0.draught", 95);
        Check.that("95 hours", dock.hoursUntilAfloat(0), 95);
        Spoiler.put(dock, "now.ships.rows.0.draught", 96);
        Check.that("96 hours", dock.hoursUntilAfloat(0), 96);
        Spoiler.put(dock, "now.ships.rows.0.draught", 97);
        Check.fails("97 hours", STATE, () -> dock.hoursUntilAfloat(0));
    }

    static void promise25_notWithin96Hours() {
        FloatingDock dock = stranded(5);
        Check.fails("rate 0", STATE, () -> dock.hoursUntilAfloat(0));
        dock.setPump(-1);
        Check.fails("rate -1", STATE, () -> dock.hoursUntilAfloat(0));
        dock.setPump(1);
        Check.that("rate 1", dock.hoursUntilAfloat(0), 5);
    }

    static void promise25_withTheTide() {
        for (int hour = 10; hour < 22; hour++) {
            FloatingDock dock = Docks.openAt(100);
            dock.addShip(10, 80, 0);
            dock.enter(0, 0);
            dock.pass(12);
            Docks.passUntil(dock, 24 + hour);
            int hours = dock.hoursUntilAfloat(0);
            Check.that("hour " + hour + ", then", dock.levelAfter(hours) >= 80, true);
            for (int sooner = 0; sooner < hours; sooner++) {
                Check.that("hour " + hour + ", sooner", dock.levelAfter(sooner) < 80, true);
            }
        }
    }

    static void promise25_changesNothing() {
        Whole.Maker maker = () -> {
            FloatingDock dock = stranded(80);
            dock.setPump(1);
            return dock;
        };
        Whole.same("asked", () -> {
            FloatingDock dock = maker.make();
            dock.hoursUntilAfloat(0);
            return dock;
        }, maker);
    }
}
