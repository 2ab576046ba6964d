import java.util.NoSuchElementException;

/** The term "Changes", each sentence that names a boundary. */
final class ChangeBoundaries {

    private static final Class<?> STATE = IllegalStateException.class;
    private static final Class<?> MISSING = NoSuchElementException.class;

    private ChangeBoundaries() {
    }

    // what a change is

    /** One change more can be undone, and then all is as before. */
    private static void isChange(Whole.Maker maker, Whole.Act act) {
        FloatingDock dock = maker.make();
        int left = 0;
        while (Check.outcome(() -> dock.undo()) instanceof Integer) {
            left++;
        }
        FloatingDock changed = maker.make();
        Check.succeeds("the change", () -> act.on(changed));
        Check.that("changes that are left", changed.undo(), left);
        Whole.same("undone", () -> {
            FloatingDock other = maker.make();
            act.on(other);
            other.undo();
            return other;
        }, maker, "text");
    }

    private static void isNoChange(Whole.Maker maker, Whole.Act act) {
        FloatingDock dock = maker.make();
        int before = dock.undo();
        FloatingDock asked = maker.make();
        Check.outcome(() -> act.on(asked));
        Check.that("changes that are left", asked.undo(), before);
    }

    private static void throwsAndIsNone(Whole.Maker maker, Whole.Act act) {
        FloatingDock dock = maker.make();
        String outcome = Check.outcome(() -> act.on(dock)).toString();
        Check.that(outcome, outcome.startsWith("throws."), true);
        isNoChange(maker, act);
    }

    /** At the level 82 with the gate open, the ship 0 in the dock, the ship 1 outside. */
    private static FloatingDock some() {
        FloatingDock dock = Docks.openAt(82);
        Docks.addShips(dock, 10, 10);
        dock.enter(0, 0);
        return withFewChanges(dock);
    }

    /** The same with a ship that has a bill. */
    private static FloatingDock charged() {
        FloatingDock dock = some();
        dock.pass(3);
        return dock;
    }

    private static FloatingDock dry() {
        FloatingDock dock = Docks.atLevel(0);
        dock.placeBlock(5);
        return withFewChanges(dock);
    }

    /** With eight changes or more, one change more would not show in their number. */
    private static FloatingDock withFewChanges(FloatingDock dock) {
        dock.save();
        dock.restore();
        dock.setPump(1);
        dock.setPump(0);
        return dock;
    }

    static void termChanges_addShip() {
        isChange(ChangeBoundaries::some, d -> d.addShip(5, 5, 5));
        isChange(FloatingDock::new, d -> d.addShip(5, 5, 5));
    }

    static void termChanges_removeShip() {
        isChange(ChangeBoundaries::some, d -> d.removeShip(1));
    }

    static void termChanges_enter() {
        isChange(ChangeBoundaries::some, d -> d.enter(1, 10));
    }

    static void termChanges_leave() {
        isChange(ChangeBoundaries::some, d -> d.leave(0));
    }

    static void termChanges_setCleaning() {
        isChange(ChangeBoundaries::some, d -> d.setCleaning(0, true));
    }

    static void termChanges_setGate() {
        isChange(ChangeBoundaries::some, d -> d.setGate(false));
    }

    static void termChanges_setPump() {
        isChange(ChangeBoundaries::some, d -> d.setPump(30));
    }

    static void termChanges_pass() {
        isChange(ChangeBoundaries::charged, d -> d.pass(48));
    }

    static void termChanges_placeBlock() {
        isChange(ChangeBoundaries::dry, d -> d.placeBlock(6));
    }

    static void termChanges_removeBlock() {
        isChange(ChangeBoundaries::dry, d -> d.removeBlock(5));
    }

    static void termChanges_pay() {
        isChange(ChangeBoundaries::charged, d -> d.pay(0, 1));
    }

    static void termChanges_run() {
        isChange(ChangeBoundaries::charged, d -> Docks.run(d, "pay 0+1"));
    }

    static void termChanges_aRunOfSeveralCommandsIsOne() {
        isChange(ChangeBoundaries::charged, d -> Docks.run(d, "pay 0+6;leave 0;pump 9;pass 48"));
        isChange(FloatingDock::new, d -> Docks.run(d, "ship 5 5 5;ship 5 5 5;ship 5 5 5"));
    }

    static void termChanges_evenIfNothingDiffers() {
        isChange(ChangeBoundaries::some, d -> d.setCleaning(0, false));
        isChange(ChangeBoundaries::some, d -> d.setGate(true));
        isChange(ChangeBoundaries::some, d -> d.setPump(0));
        isChange(ChangeBoundaries::some, d -> Docks.run(d, "open"));
        isChange(ChangeBoundaries::some, d -> Docks.run(d, "stop 0;open;pump 0"));
    }

    static void termChanges_nothingElseIsOne() {
        Whole.Maker maker = ChangeBoundaries::charged;
        isNoChange(maker, d -> d.append('x'));
        isNoChange(maker, d -> d.save());
        isNoChange(maker, d -> d.describeDock());
        isNoChange(maker, d -> d.describeBill(0));
        isNoChange(maker, d -> d.levelAfter(96));
        isNoChange(maker, d -> d.hoursUntilAfloat(0));
        isNoChange(maker, d -> d.mostFitting());
        isNoChange(maker, d -> d.mostFittingByTable());
        isNoChange(maker, d -> d.isConsistent());
    }

    static void termChanges_aCallThatThrowsIsNone() {
        Whole.Maker maker = ChangeBoundaries::charged;
        throwsAndIsNone(maker, d -> d.addShip(4, 5, 5));
        throwsAndIsNone(maker, d -> d.removeShip(0));
        throwsAndIsNone(maker, d -> d.enter(1, 5));
        throwsAndIsNone(maker, d -> d.leave(0));
        throwsAndIsNone(maker, d -> d.setCleaning(1, true));
        throwsAndIsNone(maker, d -> d.setPump(31));
        throwsAndIsNone(maker, d -> d.pass(0));
        throwsAndIsNone(maker, d -> d.placeBlock(5));
        throwsAndIsNone(maker, d -> d.removeBlock(5));
        throwsAndIsNone(maker, d -> d.pay(0, 7));
        throwsAndIsNone(maker, d -> Docks.run(d, "pump 5;pass 0"));
        throwsAndIsNone(maker, d -> Docks.run(d, "pump 5;"));
    }

    // the latest 8

    static void termChanges_theLatest8() {
        FloatingDock dock = new FloatingDock();
        for (int hours = 1; hours <= 9; hours++) {
            dock.pass(1);
        }
        for (int left = 7; left >= 0; left--) {
            Check.that("left", dock.undo(), left);
            Check.that("hour", dock.hour(), 4 + left);
        }
        Check.fails("the ninth", STATE, () -> dock.undo());
        Check.that("the ninth stays", dock.hour(), 4);
    }

    static void termChanges_exactly8() {
        FloatingDock dock = new FloatingDock();
        for (int hours = 1; hours <= 8; hours++) {
            dock.pass(1);
        }
        for (int left = 7; left >= 0; left--) {
            Check.that("left", dock.undo(), left);
        }
        Check.that("all are undone", dock.hour(), 3);
        Check.fails("no more", STATE, () -> dock.undo());
    }

    /** Each of the eight is of another kind. */
    static void termChanges_theLatestOneFirst() {
        FloatingDock dock = new FloatingDock();
        dock.pass(1);
        String[] pictures = new String[8];
        for (int done = 0; done < 8; done++) {
            pictures[done] = Docks.picture(dock);
            step(dock, done);
        }
        for (int left = 7; left >= 0; left--) {
            Check.that("left", dock.undo(), left);
            Check.that("as before the change " + left, Docks.picture(dock), pictures[left]);
        }
    }

    private static void step(FloatingDock dock, int number) {
        switch (number) {
            case 0 -> dock.addShip(10, 20, 30);
            case 1 -> dock.addShip(12, 20, 30);
            case 2 -> dock.enter(1, 9);
            case 3 -> dock.pass(1);
            case 4 -> dock.pay(1, 1);
            case 5 -> dock.removeShip(0);
            case 6 -> dock.setGate(false);
            default -> Docks.run(dock, "pump 9;pass 2;pay 1+3");
        }
    }

    // what is neither undone nor saved

    private static void staysAsItIs(String part, Whole.Maker maker, Whole.Act act) {
        Whole.Maker acted = () -> {
            FloatingDock dock = maker.make();
            dock.save();
            dock.setPump(5);
            Check.outcome(() -> act.on(dock));
            return dock;
        };
        String due = Whole.of(acted).get(part);
        Check.that("it differs", due.equals(Whole.of(maker).get(part)), false);
        Check.that("undone", Whole.of(() -> {
            FloatingDock dock = acted.make();
            dock.undo();
            return dock;
        }).get(part), due);
        Check.that("restored", Whole.of(() -> {
            FloatingDock dock = acted.make();
            dock.restore();
            return dock;
        }).get(part), due);
        Check.that("saved", Whole.of(() -> {
            FloatingDock dock = acted.make();
            dock.save();
            return dock;
        }).get(part), due);
    }

    static void termChanges_theCommandTextStays() {
        staysAsItIs("text", ChangeBoundaries::some, d -> d.append('o'));
        FloatingDock dock = new FloatingDock();
        Docks.type(dock, "op");
        dock.save();
        dock.setPump(1);
        Docks.type(dock, "en");
        dock.undo();
        dock.restore();
        Check.that("is whole", dock.run(), 1);
        Docks.type(dock, "op");
        dock.save();
        Check.outcome(() -> dock.run());
        dock.restore();
        Check.that("is empty", dock.append('o'), 1);
    }

    static void termChanges_theErrorPositionStays() {
        staysAsItIs("error", ChangeBoundaries::some, d -> Docks.run(d, "open;x"));
    }

    static void termChanges_theFailedCommandStays() {
        staysAsItIs("failed", ChangeBoundaries::some, d -> Docks.run(d, "open;pass 0"));
    }

    static void termChanges_theKeptReasonStays() {
        staysAsItIs("reason", ChangeBoundaries::some, d -> d.enter(1, 5));
    }

    static void termChanges_theLineStays() {
        staysAsItIs("line", ChangeBoundaries::some, d -> d.describeDock());
        staysAsItIs("line", ChangeBoundaries::some, d -> d.describeBill(0));
    }

    /** A text of which nothing is left behind does not come back with the run that is undone. */
    static void termChanges_aRunThatIsUndoneLeavesTheTextEmpty() {
        FloatingDock dock = new FloatingDock();
        Docks.run(dock, "pump 5");
        dock.undo();
        Check.that("the first character", dock.append('x'), 1);
    }

    // everything else is saved

    private static void isSaved(Whole.Maker maker, Whole.Act act) {
        Whole.same("restored", () -> {
            FloatingDock dock = maker.make();
            dock.save();
            Check.succeeds("the change", () -> act.on(dock));
            dock.restore();
            return dock;
        }, () -> {
            FloatingDock dock = maker.make();
            dock.save();
            dock.restore();
            return dock;
        });
        Whole.same("saved after it", () -> {
            FloatingDock dock = maker.make();
            act.on(dock);
            dock.save();
            return dock;
        }, () -> {
            FloatingDock dock = maker.make();
            act.on(dock);
            return dock;
        }, "snapshot");
    }

    static void termChanges_shipsAreSaved() {
        isSaved(ChangeBoundaries::some, d -> d.addShip(5, 5, 5));
        isSaved(ChangeBoundaries::some, d -> d.removeShip(1));
    }

    static void termChanges_whereShipsAreIsSaved() {
        isSaved(ChangeBoundaries::some, d -> d.enter(1, 10));
        isSaved(ChangeBoundaries::some, d -> d.leave(0));
        isSaved(ChangeBoundaries::some, d -> d.leave(0) + d.enter(0, 33));
    }

    static void termChanges_cleaningIsSaved() {
        isSaved(ChangeBoundaries::some, d -> d.setCleaning(0, true));
    }

    static void termChanges_gateRateAndBlocksAreSaved() {
        isSaved(ChangeBoundaries::some, d -> d.setGate(false));
        isSaved(ChangeBoundaries::some, d -> d.setPump(30));
        isSaved(ChangeBoundaries::dry, d -> d.placeBlock(6));
        isSaved(ChangeBoundaries::dry, d -> d.removeBlock(5));
    }

    static void termChanges_hoursLevelAndBillsAreSaved() {
        isSaved(ChangeBoundaries::charged, d -> d.pass(5));
        isSaved(ChangeBoundaries::charged, d -> d.pay(0, 2));
    }

    /** Dirt, damage and hours afloat: the ship 0 rests on blocks, the ship 1 beside them. */
    static void termChanges_dirtAndDamageAreSaved() {
        Whole.Maker maker = () -> {
            FloatingDock dock = Docks.withBlocks(0, 1);
            dock.addShip(10, 80, 9);
            dock.addShip(10, 80, 9);
            dock.enter(0, 0);
            dock.enter(1, 10);
            dock.setCleaning(0, true);
            dock.setGate(false);
            dock.setPump(-30);
            dock.pass(1);
            withFewChanges(dock).setPump(-30);
            return dock;
        };
        isSaved(maker, d -> d.pass(2));
        isChange(maker, d -> d.pass(2));
        isSaved(maker, d -> d.setPump(30) + d.pass(4));
    }

    static void termChanges_theNextIdIsUndoneAndSaved() {
        FloatingDock dock = new FloatingDock();
        dock.addShip(5, 5, 5);
        dock.save();
        Check.that("the second", dock.addShip(5, 5, 5), 1);
        dock.undo();
        Check.that("undone", dock.addShip(6, 6, 6), 1);
        dock.addShip(5, 5, 5);
        dock.restore();
        Check.that("restored", dock.addShip(7, 7, 7), 1);
        dock.removeShip(1);
        Check.that("not after a removal", dock.addShip(7, 7, 7), 2);
        dock.undo();
        dock.undo();
        dock.undo();
        Check.that("the removal undone too", dock.addShip(7, 7, 7), 1);
        Check.fails("none is left over", MISSING, () -> dock.dirtOf(2));
    }
}
