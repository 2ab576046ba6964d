/** The term "Hours" with its steps 1 to 3, each sentence that names a boundary. */
final class HourBoundaries {

    private static final int[] TIDE = {40, 60, 80, 100, 120, 140, 160, 140, 120, 100, 80, 60};

    private HourBoundaries() {
    }

    // the order of the steps

    /** The sea is at 100 in the hour 3 and at 120 in the hour 4. */
    static void termHours_step1ComesBeforeStep2() {
        FloatingDock dock = new FloatingDock();
        dock.pass(1);
        Check.that("the sea in the present hour", dock.level(), 120);
    }

    static void termHours_step2ComesBeforeStep3() {
        FloatingDock dock = Docks.openAt(82);
        dock.addShip(10, 80, 0);
        dock.enter(0, 0);
        dock.setGate(false);
        dock.setPump(-3);
        dock.pass(1);
        Check.that("afloat at 82, rests at 79: hours afloat", dock.hoursAfloat(0), 0);
        Check.that("afloat at 82, rests at 79: damage", dock.damageOf(0), 1);
        dock.setPump(1);
        dock.pass(1);
        Check.that("rests at 79, afloat at 80: hours afloat", dock.hoursAfloat(0), 1);
        Check.that("rests at 79, afloat at 80: damage", dock.damageOf(0), 1);
    }

    static void termHours_eachOfSeveralHoursHasAllSteps() {
        FloatingDock once = Docks.withBlocks(0, 1);
        once.addShip(10, 60, 40);
        once.enter(0, 0);
        once.setCleaning(0, true);
        once.pass(10);
        FloatingDock tenTimes = Docks.withBlocks(0, 1);
        tenTimes.addShip(10, 60, 40);
        tenTimes.enter(0, 0);
        tenTimes.setCleaning(0, true);
        for (int hour = 0; hour < 10; hour++) {
            tenTimes.pass(1);
        }
        Check.that("the same", Docks.picture(once), Docks.picture(tenTimes));
    }

    // step 1

    static void termStep1_increasesBy1() {
        FloatingDock dock = new FloatingDock();
        for (int hour = 4; hour <= 30; hour++) {
            dock.pass(1);
            Check.that("hour", dock.hour(), hour);
        }
    }

    // step 2

    /** From each level at which the gate can be opened, in each hour of the tide. */
    static void termStep2_byAtMost20TowardsTheSea() {
        for (int k = 0; k < 12; k++) {
            for (int difference = -20; difference <= 20; difference++) {
                int level = TIDE[k] + difference;
                FloatingDock dock = Docks.atLevel(level);
                Docks.passUntil(dock, 120 + k);
                dock.setGate(true);
                int sea = TIDE[(k + 1) % 12];
                int due = sea > level ? Math.min(sea, level + 20) : Math.max(sea, level - 20);
                Check.that("foreseen from " + level + " to " + sea, dock.levelAfter(1), due);
                dock.pass(1);
                Check.that("from " + level + " to " + sea, dock.level(), due);
            }
        }
    }

    private static int openedAt15From(int level) {
        FloatingDock dock = Docks.atLevel(level);
        Docks.passUntil(dock, 15);
        dock.setGate(true);
        dock.pass(1);
        return dock.level();
    }

    /** The sea is at 120 in the hour 16. */
    static void termStep2_justAt20() {
        Check.that("21 to rise", openedAt15From(99), 119);
        Check.that("20 to rise", openedAt15From(100), 120);
        Check.that("19 to rise", openedAt15From(101), 120);
        Check.that("nothing to rise", openedAt15From(120), 120);
        Check.that("40 to rise", openedAt15From(80), 100);
    }

    /** The sea is at 140 in the hour 19. */
    static void termStep2_justAt20Falling() {
        int[] levels = {180, 161, 160, 159, 141, 140};
        int[] due = {160, 141, 140, 140, 140, 140};
        for (int i = 0; i < levels.length; i++) {
            FloatingDock dock = Docks.atLevel(levels[i]);
            Docks.passUntil(dock, 18);
            dock.setGate(true);
            dock.pass(1);
            Check.that("from " + levels[i], dock.level(), due[i]);
        }
    }

    static void termStep2_theRateDoesNothingAtAnOpenGate() {
        for (int rate : new int[] {-30, 30}) {
            FloatingDock dock = new FloatingDock();
            dock.setPump(rate);
            dock.pass(1);
            Check.that("rate " + rate, dock.level(), 120);
        }
    }

    static void termStep2_byTheRateAtAClosedGate() {
        for (int rate = -30; rate <= 30; rate++) {
            FloatingDock dock = Docks.atLevel(100);
            dock.setPump(rate);
            dock.pass(1);
            Check.that("rate " + rate, dock.level(), 100 + rate);
        }
    }

    static void termStep2_levelStaysFrom0To200() {
        for (int rate = 1; rate <= 30; rate++) {
            for (int level = 0; level <= 31; level++) {
                FloatingDock low = Docks.atLevel(level);
                low.setPump(-rate);
                low.pass(1);
                Check.that(level + " and -" + rate, low.level(), Math.max(0, level - rate));
            }
            for (int level = 169; level <= 200; level++) {
                FloatingDock high = Docks.atLevel(level);
                high.setPump(rate);
                high.pass(1);
                Check.that(level + " and " + rate, high.level(), Math.min(200, level + rate));
            }
        }
    }

    static void termStep2_leavesTheBordersAgain() {
        FloatingDock dock = Docks.atLevel(0);
        dock.setPump(-30);
        dock.pass(5);
        dock.setPump(1);
        dock.pass(1);
        Check.that("from 0", dock.level(), 1);
        Docks.pumpTo(dock, 200);
        dock.setPump(30);
        dock.pass(5);
        dock.setPump(-1);
        dock.pass(1);
        Check.that("from 200", dock.level(), 199);
    }

    // step 3

    /** The ship 0 with draught 80 is over this many blocks, at the level 82, the gate closed. */
    private static FloatingDock over(int blocks, int dirt, boolean isCleaned) {
        FloatingDock dock = Docks.atLevel(0);
        for (int position = 0; position < blocks; position++) {
            dock.placeBlock(position);
        }
        Docks.pumpTo(dock, 82);
        Docks.openAtTide(dock);
        dock.addShip(30, 80, dirt);
        dock.enter(0, 0);
        dock.setCleaning(0, isCleaned);
        dock.setGate(false);
        return dock;
    }

    private static void hour(String what, FloatingDock dock, String due) {
        int dirt = dock.dirtOf(0);
        int removed = dock.pass(1);
        Check.that(what + ", removed", removed, dirt - dock.dirtOf(0));
        Check.that(what + ": coins, dirt, damage, hours afloat",
                dock.billOf(0) + " " + dock.dirtOf(0) + " " + dock.damageOf(0) + " "
                + dock.hoursAfloat(0), due);
        Check.that(what + ", by account", dock.billTotalByAccount(), dock.billOf(0));
    }

    private static void rest(String what, int blocks, int dirt, boolean isCleaned, String due) {
        FloatingDock dock = over(blocks, dirt, isCleaned);
        dock.setPump(-3);
        hour(what, dock, due);
    }

    static void termStep3_afloatIs2Coins() {
        hour("on no block", over(0, 9, true), "2 9 0 1");
        hour("on two blocks", over(2, 9, true), "2 9 0 1");
        hour("on twenty blocks", over(20, 9, true), "2 9 0 1");
        FloatingDock just = over(2, 9, true);
        just.setPump(-2);
        hour("just afloat", just, "2 9 0 1");
    }

    static void termStep3_restsWithFewerThan2Blocks() {
        rest("on no block", 0, 9, true, "2 9 1 0");
        rest("on one block", 1, 9, true, "2 9 1 0");
        rest("on one block, not cleaned", 1, 9, false, "2 9 1 0");
    }

    static void termStep3_restsWithAtLeast2Blocks() {
        rest("on two blocks", 2, 9, false, "4 9 0 0");
        rest("on three blocks", 3, 9, false, "5 9 0 0");
        rest("on nineteen blocks", 19, 9, false, "21 9 0 0");
        rest("on twenty blocks", 20, 9, false, "22 9 0 0");
    }

    static void termStep3_dirtDecreasesBy3OrTo0() {
        rest("dirt 99", 2, 99, true, "13 96 0 0");
        rest("dirt 4", 2, 4, true, "13 1 0 0");
        rest("dirt 3", 2, 3, true, "13 0 0 0");
        rest("dirt 2", 2, 2, true, "10 0 0 0");
        rest("dirt 1", 2, 1, true, "7 0 0 0");
        rest("dirt 0", 2, 0, true, "4 0 0 0");
        rest("dirt 3 on twenty blocks", 20, 3, true, "31 0 0 0");
    }

    static void termStep3_blocksBesideItDoNotCount() {
        for (int first = 17; first <= 31; first++) {
            FloatingDock dock = Docks.withBlocks(first, first + 1);
            dock.addShip(10, 80, 9);
            dock.enter(0, 20);
            dock.setGate(false);
            dock.pass(1);
            dock.pay(0, 2);
            dock.setPump(-30);
            dock.pass(1);
            dock.pay(0, 2);
            dock.pass(1);
            boolean isSafe = first >= 20 && first <= 28;
            Check.that("blocks from " + first + ", damage", dock.damageOf(0) > 0, !isSafe);
            Check.that("blocks from " + first + ", bill", dock.billOf(0) > 3, isSafe);
        }
    }

    static void termStep3_eachShipInTheDockAndNoneOutside() {
        FloatingDock dock = Docks.withShips(5, 5, 5, 5, 5, 5, 5, 5);
        for (int ship = 1; ship < 8; ship++) {
            dock.enter(ship, 40 - 5 * ship);
        }
        dock.pass(1);
        Check.that("outside", dock.billOf(0), 0);
        Check.that("hours afloat outside", dock.hoursAfloat(0), 0);
        for (int ship = 1; ship < 8; ship++) {
            Check.that("ship " + ship, dock.billOf(ship), 2);
            Check.that("ship " + ship + ", hours afloat", dock.hoursAfloat(ship), 1);
        }
    }

    static void termStep3_aShipThatHasLeftIsNotVisited() {
        FloatingDock dock = Docks.withShips(10);
        dock.enter(0, 0);
        dock.leave(0);
        dock.pass(48);
        Check.that("bill", dock.billOf(0), 0);
        Check.that("hours afloat", dock.hoursAfloat(0), 0);
    }
}
