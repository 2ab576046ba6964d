import java.util.NoSuchElementException;

/** Promises 44 to 47: commands. */
final class CommandPromises {

    private static final Class<?> ARGUMENT = IllegalArgumentException.class;
    private static final Class<?> STATE = IllegalStateException.class;
    private static final Class<?> MISSING = NoSuchElementException.class;
    private static final String BAD_TEXT = "throws.IllegalArgumentException";
    private static final String FAILED = "throws.IllegalStateException";

    private CommandPromises() {
    }

    static void runAll() {
        append();
        appendWrongly();
        eachCommand();
        severalCommands();
        fullText();
        numbers();
        errorPositions();
        failingCommands();
        failuresOfEachKind();
        keptReasons();
        whatIsLeftAsItIs();
    }

    private static void append() {
        FloatingDock dock = new FloatingDock();
        for (int length = 1; length <= 60; length++) {
            Check.that("promise 44: " + length, dock.append((char) (31 + length)), length);
        }
        Docks.refuses("promise 44: a 61st", dock, STATE, () -> dock.append('a'));
        Docks.refuses("promise 44: a bad 61st", dock, ARGUMENT, () -> dock.append((char) 31));
        Check.that("promise 45: not a text", Docks.run(dock, ""), BAD_TEXT);
        Check.that("promise 44: empty again", dock.append('a'), 1);
    }

    private static void appendWrongly() {
        FloatingDock dock = new FloatingDock();
        for (int code : new int[] {0, 9, 10, 31, 127, 128, 255, 256, 0x20AC, 0xFFFF}) {
            Docks.refuses("promise 44: code " + code, dock, ARGUMENT,
                    () -> dock.append((char) code));
        }
        Check.that("promise 44: code 32", dock.append(' '), 1);
        Check.that("promise 44: code 126", dock.append('~'), 2);
        dock.addShip(5, 5, 5);
        dock.undo();
        Check.that("promise 44: is not undone", dock.append('x'), 3);
    }

    private static void one(FloatingDock dock, String text) {
        Check.that("promise 45: " + text, Docks.run(dock, text), 1);
    }

    private static void eachCommand() {
        FloatingDock dock = new FloatingDock();
        one(dock, "close");
        Check.that("promise 45: closed", dock.isGateOpen(), false);
        one(dock, "pump -30");
        one(dock, "pass 4");
        Check.that("promise 45: hours passed", dock.hour(), 7);
        Check.that("promise 45: pumped", dock.level(), 0);
        one(dock, "block 12");
        one(dock, "block 13");
        one(dock, "block 14");
        one(dock, "unblock 13");
        Check.that("promise 45: a block is there", dock.hasBlock(14), true);
        Check.that("promise 45: no block is there", dock.hasBlock(13), false);
        one(dock, "pump 30");
        one(dock, "pass 3");
        one(dock, "open");
        Check.that("promise 45: open", dock.isGateOpen(), true);
        one(dock, "ship 9 40 77");
        Check.that("promise 45: a ship", Docks.bill(dock, 0), "#0:0/77");
        one(dock, "enter 0@10");
        Check.that("promise 45: its position", dock.positionOf(0), 10);
        Check.that("promise 45: its length", dock.freeMetres(), 51);
        one(dock, "clean 0");
        one(dock, "close");
        one(dock, "pump -30");
        one(dock, "pass 2");
        Check.that("promise 45: cleaned", Docks.bill(dock, 0), "#0:15/74_");
        one(dock, "stop 0");
        one(dock, "pass 1");
        Check.that("promise 45: stopped", Docks.bill(dock, 0), "#0:19/74_");
        one(dock, "pay 0+12");
        Check.that("promise 45: paid", Docks.bill(dock, 0), "#0:7/74_");
        one(dock, "pump 30");
        one(dock, "pass 2");
        one(dock, "pay 0+11");
        Check.that("promise 45: does not open", Docks.run(dock, "open"), FAILED);
        Check.that("promise 45: is closed", dock.isGateOpen(), false);
        one(dock, "pass 2");
        one(dock, "pay 0+6");
        one(dock, "open");
        one(dock, "leave 0");
        Check.that("promise 45: has left", dock.isInDock(0), false);
    }

    private static void severalCommands() {
        FloatingDock dock = new FloatingDock();
        Check.that("promise 45: several",
                Docks.run(dock, "ship 10 20 3;enter 0@5;pass 2;pay 0+3"), 4);
        Check.that("promise 45: all carried out", Docks.picture(dock),
                "1 true 140 5 160 3 1 1 #0 3 0 2 1 true5 ^");
        Check.that("promise 45: the text is empty", dock.append('o'), 1);
        Check.that("promise 45: open alone", Docks.run(dock, "pen"), 1);
        Check.that("promise 54: one change", dock.undo(), 1);
        Check.that("promise 54: the other", dock.undo(), 0);
        Check.that("promise 54: nothing is left", Docks.picture(dock), "0 true 100 3 120 0 0 0 ^");
    }

    private static void fullText() {
        FloatingDock dock = new FloatingDock();
        String many = "open;open;open;open;open;open;open;open;open;open;open;close";
        Check.that("promise 45: 12 commands", Docks.run(dock, many), 12);
        Check.that("promise 45: in their order", dock.isGateOpen(), false);
        String most = "ship 10 10 10;ship 11 11 11;ship 12 12 12;ship 13 13 13;open";
        Check.that("promise 45: as long as can be", most.length(), 60);
        Check.that("promise 45: 60 characters", Docks.run(dock, most), 5);
        Check.that("promise 45: 4 ships", dock.shipCount(), 4);
    }

    private static void numbers() {
        FloatingDock dock = new FloatingDock();
        one(dock, "pump -3");
        Check.that("promise 45: -3", dock.setPump(0), -3);
        one(dock, "pump 030");
        Check.that("promise 45: 030", dock.setPump(1), 30);
        one(dock, "pump -0");
        Check.that("promise 45: -0", dock.setPump(1), 0);
        one(dock, "pump -007");
        Check.that("promise 45: -007", dock.setPump(1), -7);
        one(dock, "ship 005 080 000");
        Check.that("promise 45: zeros ahead", Docks.bill(dock, 0), "#0:0/0");
        Check.that("promise 45: 999", Docks.run(dock, "pump 999"), FAILED);
        Check.that("promise 45: -999", Docks.run(dock, "pump -999"), FAILED);
        Check.that("promise 45: the numbers keep their order", Docks.run(dock, "ship 5 6 7"), 1);
        dock.enter(1, 0);
        Check.that("promise 45: length", dock.freeMetres(), 55);
        Check.that("promise 45: dirt", dock.dirtOf(1), 7);
    }

    private static void error(String text, int due) {
        FloatingDock dock = Docks.withShips(10);
        Docks.type(dock, text);
        Docks.refuses("promise 45: " + text, dock, ARGUMENT, () -> dock.run());
        Check.that("promise 46: " + text, dock.errorPosition(), due);
        Check.fails("promise 47: " + text, MISSING, () -> dock.failedCommand());
        Check.that("promise 45: cleared, " + text, dock.append('x'), 1);
    }

    private static void errorPositions() {
        String[] texts = {"", "x", "s", "sx", "stix", "ship", "ship ", "shipx", "ship  5", "ship -5",
            "ship 5 5", "ship 5 5 ", "ship 5 5 x", "ship 5;5", "ship 1234 5 5", "ship 5 5 1234",
            "ship 5 5 5 ", "enter 0", "enter 0@", "enter 0@x", "enter 0 5", "enter 0@5@", "enter0@5",
            "leave", "leav ", "leave x", "leave 0+1", "clean 0 ", "cle", "clo", "clx", "closed",
            "close ", "stop x", "st", "op", "open ", "opene", "Open", " open", "open;", "open;;",
            "open; close", "open;x", "pu", "p", "px", "pump", "pump ", "pump -", "pump --1",
            "pump -x", "pump -;", "pump +1", "pump 1-", "pump - 1", "pa", "pas", "pax", "pass ",
            "pass -1", "pay 0", "pay 0+", "pay 0+-1", "pay 0-1", "pay 0@1", "b", "blocked", "block ",
            "u", "unblock", "unblock -", "un block", "open;close;pass 1;q", "block 1,2", "pass 1.5"};
        int[] due = {0, 0, 1, 1, 2, 4, 5, 4, 5, 5,
            8, 9, 9, 6, 8, 12,
            10, 7, 8, 8, 7, 9, 5,
            5, 4, 6, 7, 7, 3, 3, 2, 5,
            5, 5, 2, 2, 4, 4, 0, 0, 5, 5,
            5, 5, 2, 1, 1, 4, 5, 6, 6,
            6, 6, 5, 6, 6, 2, 3, 2, 5,
            5, 5, 6, 6, 5, 5, 1, 5, 6,
            1, 7, 8, 2, 18, 7, 6};
        Check.that("promise 46: as many positions as texts", due.length, texts.length);
        for (int i = 0; i < texts.length; i++) {
            error(texts[i], due[i]);
            Check.that("promise 46: the model, " + texts[i], ModelDock.errorOf(texts[i]), due[i]);
        }
        error("open;open;open;open;open;open;open;open;open;open;open;open;", 60);
        error("pass 1;pass 1;pass 1;pass 1;pass 1;pass 1;pass 1;pass 1;pas~", 59);
        FloatingDock dock = new FloatingDock();
        Check.that("promise 45: a late error", Docks.run(dock, "open;close;pass 1;q"), BAD_TEXT);
        Check.that("promise 45: an early error", Docks.run(dock, "st;"), BAD_TEXT);
        Check.that("promise 46: the early error", dock.errorPosition(), 2);
    }

    private static void fails(FloatingDock dock, String text, int due) {
        Docks.type(dock, text);
        String before = Docks.picture(dock);
        Check.fails("promise 45: " + text, STATE, () -> dock.run());
        Check.that("promise 45: carries out none, " + text, Docks.picture(dock), before);
        Check.that("promise 47: " + text, dock.failedCommand(), due);
        Check.that("promise 45: cleared, " + text, Docks.run(dock, "pump 0"), 1);
        dock.undo();
    }

    private static void failingCommands() {
        FloatingDock dock = Docks.withShips(10);
        Check.fails("promise 46: none yet", MISSING, () -> dock.errorPosition());
        Check.fails("promise 47: none yet", MISSING, () -> dock.failedCommand());
        fails(dock, "pass 49", 0);
        fails(dock, "pass 1;ship 5 5 5;pump 9;close;pass 0;pass 49", 4);
        fails(dock, "enter 0@0;clean 0;pass 3;pay 0+6;leave 0;leave 0", 5);
        fails(dock, "open;leave 0", 1);
        Check.that("promise 47: the error position is not set",
                Check.outcome(() -> dock.errorPosition()), "throws.NoSuchElementException");
        Check.that("promise 45: no id was given", dock.addShip(5, 5, 5), 1);
        Check.that("promise 54: failed runs are no changes", dock.undo(), 1);
    }

    private static void failuresOfEachKind() {
        FloatingDock dock = Docks.withShips(10, 10);
        String[] texts = {"ship 4 5 5", "enter 2@0", "enter 0@51", "leave 0", "leave 7", "clean 0",
            "stop 0", "clean 9", "pump 31", "pump -31", "pass 0", "block 60", "block 5",
            "unblock 60", "unblock 5", "pay 0+1", "pay 0+0", "pay 9+1", "close;enter 0@0",
            "close;pass 2;open", "enter 0@0;enter 1@9", "enter 0@0;pass 1;leave 0"};
        int[] due = {0, 0, 0, 0, 0, 0, 0, 0, 0, 0, 0, 0, 0, 0, 0, 0, 0, 0, 1, 2, 1, 2};
        for (int i = 0; i < texts.length; i++) {
            fails(dock, texts[i], due[i]);
        }
    }

    private static void keptReasons() {
        FloatingDock dock = Docks.withShips(10, 10);
        Docks.run(dock, "enter 0@0;block 5");
        Check.fails("promise 45: no reason of a failure", MISSING, () -> dock.refusalReason());
        Docks.run(dock, "enter 0@0;enter 1@9");
        Check.that("promise 45: reason 2 is kept", dock.refusalReason(), 2);
        Docks.run(dock, "enter 0@0;pass 1;leave 0");
        Check.that("promise 45: reason 4 is kept", dock.refusalReason(), 4);
        Docks.run(dock, "pass 1;pass 0;leave 0");
        Check.that("promise 45: the last one stays", dock.refusalReason(), 4);
    }

    private static void whatIsLeftAsItIs() {
        FloatingDock dock = new FloatingDock();
        Docks.run(dock, "pass 1;pass 0");
        Docks.run(dock, "pass 1;pass x");
        Check.that("promise 46: set", dock.errorPosition(), 12);
        Check.that("promise 47: left", dock.failedCommand(), 1);
        Docks.run(dock, "pass 0");
        Check.that("promise 46: left", dock.errorPosition(), 12);
        Check.that("promise 47: set", dock.failedCommand(), 0);
        dock.save();
        Docks.run(dock, "open");
        dock.undo();
        dock.restore();
        Check.that("promise 46: not undone or restored", dock.errorPosition(), 12);
        Check.that("promise 47: not undone or restored", dock.failedCommand(), 0);
        Docks.type(dock, "op");
        dock.restore();
        Check.that("promise 44: the text is not restored", Docks.run(dock, "en"), 1);
    }
}
