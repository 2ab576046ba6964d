import java.util.NoSuchElementException;

/** Promises 44 to 47 and the term "Commands", each sentence that names a boundary. */
final class CommandBoundaries {

    private static final Class<?> ARGUMENT = IllegalArgumentException.class;
    private static final Class<?> STATE = IllegalStateException.class;
    private static final Class<?> MISSING = NoSuchElementException.class;
    private static final String NO_TEXT = "throws.IllegalArgumentException";
    private static final String FAILED = "throws.IllegalStateException";

    private CommandBoundaries() {
    }

    private static FloatingDock typed(String text) {
        FloatingDock dock = new FloatingDock();
        Docks.type(dock, text);
        return dock;
    }

    /** The text is refused, and its error position is this. */
    private static void error(String text, int due) {
        FloatingDock dock = typed(text);
        Check.fails("\"" + text + "\"", ARGUMENT, () -> dock.run());
        Check.that("\"" + text + "\", position", dock.errorPosition(), due);
    }

    /** The text is a command text, whether its commands fail or not. */
    private static void isText(String text) {
        FloatingDock dock = typed(text);
        Object answer = Check.outcome(() -> dock.run());
        Check.that("\"" + text + "\" is no text", answer.equals(NO_TEXT), false);
        Check.fails("\"" + text + "\", position", MISSING, () -> dock.errorPosition());
    }

    // promise 44

    static void promise44_codeFrom32To126() {
        for (int code = 0; code <= 65535; code++) {
            char character = (char) code;
            FloatingDock dock = new FloatingDock();
            Object due = code >= 32 && code <= 126 ? (Object) 1 : Check.thrown(ARGUMENT);
            Check.that("code " + code, Check.outcome(() -> dock.append(character)), due);
        }
    }

    static void promise44_notIfTheTextHas60Characters() {
        FloatingDock dock = new FloatingDock();
        for (int length = 1; length <= 60; length++) {
            Check.that("length", dock.append('x'), length);
        }
        Check.fails("the 61st", STATE, () -> dock.append('x'));
        Check.fails("the 61st again", STATE, () -> dock.append(' '));
    }

    static void promise44_emptyAtFirstAndAfterARun() {
        FloatingDock dock = new FloatingDock();
        Check.that("at first", dock.append('x'), 1);
        Check.outcome(() -> dock.run());
        Check.that("after a run", dock.append('x'), 1);
        Check.that("the second", dock.append('x'), 2);
    }

    static void promise44_orderOfExceptions() {
        FloatingDock dock = typed("x".repeat(60));
        Check.fails("code 31", ARGUMENT, () -> dock.append((char) 31));
        Check.fails("code 127", ARGUMENT, () -> dock.append((char) 127));
        Check.fails("code 32", STATE, () -> dock.append(' '));
    }

    // promise 45

    static void promise45_theEmptyText() {
        FloatingDock dock = new FloatingDock();
        Check.fails("empty", ARGUMENT, () -> dock.run());
        Check.that("position", dock.errorPosition(), 0);
        Docks.run(dock, "open");
        Check.fails("empty again", ARGUMENT, () -> dock.run());
    }

    static void promise45_returnsTheNumberOfCommands() {
        String text = "open";
        for (int count = 1; count <= 12; count++) {
            Check.that("commands", Docks.run(new FloatingDock(), text), count);
            text += ";open";
        }
    }

    static void promise45_allOrNone() {
        FloatingDock dock = Docks.withShips(10);
        String before = Docks.picture(dock);
        Check.that("the last one fails",
                Docks.run(dock, "enter 0@0;clean 0;pump 9;close;pass 2;pay 0+5"), FAILED);
        Check.that("none is carried out", Docks.picture(dock), before);
        Check.that("the rate", dock.setPump(0), 0);
        Check.that("all succeed",
                Docks.run(dock, "enter 0@0;clean 0;pump 9;close;pass 2;pay 0+4"), 6);
        Check.that("hour", dock.hour(), 5);
        Check.that("level", dock.level(), 118);
        Check.that("paid", dock.paidTotal(), 4);
        Check.that("is cleaned", dock.setCleaning(0, true), true);
    }

    static void promise45_inOrder() {
        FloatingDock dock = new FloatingDock();
        Check.that("two rates", Docks.run(dock, "pump 1;pump 2"), 2);
        Check.that("the last one stays", dock.setPump(0), 2);
        Check.that("enters too soon", Docks.run(dock, "enter 0@0;ship 5 5 5"), FAILED);
        Check.that("enters then", Docks.run(dock, "ship 5 5 5;enter 0@0"), 2);
    }

    static void promise45_theTextIsEmptyAfterTheCall() {
        FloatingDock dock = new FloatingDock();
        Check.that("carried out", Docks.run(dock, "open"), 1);
        Check.that("empty", dock.append('x'), 1);
        Check.that("no text", Docks.run(dock, ""), NO_TEXT);
        Check.that("empty again", dock.append('p'), 1);
        Check.that("fails", Docks.run(dock, "ass 0"), FAILED);
        Check.that("empty once more", dock.append('x'), 1);
    }

    static void promise45_aFullText() {
        FloatingDock dock = typed("open;".repeat(10) + "pump   -30");
        Check.fails("60 characters, no text", ARGUMENT, () -> dock.run());
        Check.that("position", dock.errorPosition(), 55);
        Docks.type(dock, "open;".repeat(11) + "close");
        Check.that("60 characters", dock.run(), 12);
        Check.that("the last one", dock.isGateOpen(), false);
    }

    static void promise45_noTextBeforeAFailure() {
        FloatingDock dock = typed("pass 0;pass x");
        Check.fails("both apply", ARGUMENT, () -> dock.run());
        Check.that("position", dock.errorPosition(), 12);
        Check.fails("no command has failed", MISSING, () -> dock.failedCommand());
    }

    static void promise45_aRefusalKeepsItsReason() {
        FloatingDock dock = Docks.withShips(10, 10);
        Docks.run(dock, "enter 0@0;enter 1@9");
        Check.that("overlap", dock.refusalReason(), 2);
        Docks.run(dock, "enter 0@0;pass 1;leave 0");
        Check.that("bill", dock.refusalReason(), 4);
        Docks.run(dock, "pass 6;enter 0@0;pass 6");
        Check.that("no refusal", dock.refusalReason(), 4);
        FloatingDock shallow = Docks.openAt(81);
        shallow.addShip(10, 80, 0);
        Docks.run(shallow, "enter 0@0");
        Check.that("shallow", shallow.refusalReason(), 1);
        FloatingDock resting = Docks.openAt(82);
        resting.addShip(10, 80, 0);
        resting.enter(0, 0);
        resting.pass(12);
        while (resting.level() >= 80) {
            resting.pass(1);
        }
        Docks.run(resting, "leave 0");
        Check.that("rests", resting.refusalReason(), 3);
    }

    // promises 46 and 47

    static void promise46_noErrorPositionWasSet() {
        FloatingDock dock = new FloatingDock();
        Check.fails("at first", MISSING, () -> dock.errorPosition());
        Docks.run(dock, "open");
        Check.fails("after a success", MISSING, () -> dock.errorPosition());
        Docks.run(dock, "pass 0");
        Check.fails("after a failure", MISSING, () -> dock.errorPosition());
        Docks.run(dock, "");
        Check.that("after no text", dock.errorPosition(), 0);
    }

    static void promise46_setByTheLastTextThatWasNone() {
        FloatingDock dock = new FloatingDock();
        Docks.run(dock, "open;x");
        Check.that("5", dock.errorPosition(), 5);
        Docks.run(dock, "x");
        Check.that("0", dock.errorPosition(), 0);
        Docks.run(dock, "open");
        Docks.run(dock, "pass 0");
        Check.that("still 0", dock.errorPosition(), 0);
    }

    static void promise46_from0To60() {
        error("", 0);
        error("x", 0);
        error("x".repeat(60), 0);
        error("open;".repeat(11) + "opene", 59);
        error("open;".repeat(11) + "clos;", 59);
        error("open;".repeat(12), 60);
        error("open;".repeat(11) + "pump ", 60);
    }

    static void promise47_noCommandHasFailed() {
        FloatingDock dock = new FloatingDock();
        Check.fails("at first", MISSING, () -> dock.failedCommand());
        Docks.run(dock, "open");
        Check.fails("after a success", MISSING, () -> dock.failedCommand());
        Docks.run(dock, "x");
        Check.fails("after no text", MISSING, () -> dock.failedCommand());
        Check.outcome(() -> dock.pass(0));
        Check.fails("after a call that fails", MISSING, () -> dock.failedCommand());
        Docks.run(dock, "pass 0");
        Check.that("after a failure", dock.failedCommand(), 0);
    }

    static void promise47_indexFrom0() {
        String text = "pass 0";
        for (int index = 0; index <= 10; index++) {
            FloatingDock dock = typed(text);
            Check.fails("index " + index, STATE, () -> dock.run());
            Check.that("index", dock.failedCommand(), index);
            text = "open;" + text;
        }
    }

    static void promise47_theFirstCommandThatFails() {
        FloatingDock dock = new FloatingDock();
        Docks.run(dock, "open;pass 0;open;pump 31;leave 0");
        Check.that("of three", dock.failedCommand(), 1);
    }

    static void promise47_theLatestRunInWhichOneFailed() {
        FloatingDock dock = new FloatingDock();
        Docks.run(dock, "open;open;pass 0");
        Check.that("2", dock.failedCommand(), 2);
        Docks.run(dock, "open;pass 49");
        Check.that("1", dock.failedCommand(), 1);
        Docks.run(dock, "open;open;open");
        Docks.run(dock, "open;open;x");
        Check.that("still 1", dock.failedCommand(), 1);
        Docks.run(dock, "pass 0");
        Check.that("0", dock.failedCommand(), 0);
    }

    // the term "Commands"

    static void termCommands_bufferOfAtMost60Characters() {
        FloatingDock dock = typed("open;".repeat(11) + "open");
        Check.that("59 and 1", dock.append(';'), 60);
        Check.fails("61", STATE, () -> dock.append('o'));
        Check.fails("ends with a separator", ARGUMENT, () -> dock.run());
        Check.that("the error is behind all 60", dock.errorPosition(), 60);
    }

    static void termCommands_zeroOrMoreRepetitions() {
        isText("open");
        isText("open;close");
        isText("open;close;open");
        error(";", 0);
        error("open;", 5);
        error("open;;open", 5);
        error(";open", 0);
        error("open,open", 4);
    }

    static void termCommands_eachFormOfACommand() {
        String[] texts = {"ship 5 5 0", "enter 0@0", "leave 0", "clean 0", "stop 0", "open",
            "close", "pump -1", "pump 1", "pass 1", "block 0", "unblock 0", "pay 0+1"};
        for (String text : texts) {
            isText(text);
            isText(text + ";" + text);
            error(text + " ", text.length());
            error(text.substring(0, text.length() - 1), text.length() - 1);
        }
    }

    /** Each character of each keyword is changed, left out, or cut off together with the rest. */
    static void termCommands_keywordsCharacterByCharacter() {
        String[] keywords = {"ship ", "enter ", "leave ", "clean ", "stop ", "open", "close",
            "pump ", "pass ", "block ", "unblock ", "pay "};
        for (String keyword : keywords) {
            for (int i = 0; i < keyword.length(); i++) {
                error(keyword.substring(0, i), i);
                error(keyword.substring(0, i) + "~" + keyword.substring(i), i);
                error(keyword.substring(0, i) + "Z", i);
                error("open;" + keyword.substring(0, i), i + 5);
                error("open;" + keyword.substring(0, i) + "Z", i + 5);
            }
        }
    }

    static void termCommands_keywordsThatBeginAlike() {
        error("s", 1);
        error("sa", 1);
        error("shop", 2);
        error("stip", 2);
        error("cl", 2);
        error("clx", 2);
        error("cloan", 3);
        error("clese", 3);
        error("p", 1);
        error("pamp", 2);
        error("paz", 2);
        error("pays 1", 3);
        error("pasy", 3);
        error("pu ", 2);
    }

    static void termCommands_numberOfOneToThreeDigits() {
        isText("pass 1");
        isText("pass 12");
        isText("pass 123");
        isText("pass 000");
        isText("pass 999");
        error("pass 1234", 8);
        error("pass 0001", 8);
        error("pass ", 5);
        error("pass ;", 5);
    }

    static void termCommands_digitsFrom0To9() {
        FloatingDock dock = new FloatingDock();
        for (int digit = 0; digit <= 9; digit++) {
            Docks.run(dock, "pump " + digit);
            Check.that("digit", dock.setPump(0), digit);
        }
        error("pass /", 5);
        error("pass :", 5);
        error("pass 1/", 6);
        error("pass 1:", 6);
    }

    static void termCommands_numbersOfThreeDigitsEach() {
        isText("ship 111 222 333");
        isText("enter 111@222");
        isText("pay 111+222");
        error("ship 1111 2 3", 8);
        error("ship 1 2222 3", 10);
        error("ship 1 2 3333", 12);
        error("enter 1111@2", 9);
        error("enter 1@2222", 11);
        error("pay 1111+2", 7);
        error("pay 1+2222", 9);
    }

    static void termCommands_onlyThePumpTakesAMinus() {
        isText("pump -1");
        isText("pump -999");
        isText("pump 999");
        error("pump --1", 6);
        error("pump -", 6);
        error("pump - 1", 6);
        error("pump -1234", 9);
        error("pump +1", 5);
        String[] starts = {"ship ", "ship 1 ", "ship 1 1 ", "enter ", "enter 1@", "leave ",
            "clean ", "stop ", "pass ", "block ", "unblock ", "pay ", "pay 1+"};
        for (String start : starts) {
            error(start + "-1", start.length());
        }
    }

    static void termCommands_anErrorAtAnyPlace() {
        String text = "ship 10 20 30;enter 0@5;pump -12;pay 0+10;open;close;stop 3";
        for (int i = 0; i < text.length(); i++) {
            error(text.substring(0, i) + "~" + text.substring(i), i);
        }
    }

    static void termCommands_aStartOfATextHasItsLengthAsPosition() {
        String text = "ship 1 2 3;enter 0@5;pump -1;pay 0+1;leave 3";
        for (int i = 0; i < text.length(); i++) {
            String start = text.substring(0, i);
            boolean isWhole = i == 10 || i == 20 || i == 28 || i == 36;
            if (isWhole) {
                isText(start);
            } else {
                error(start, i);
            }
        }
    }

    static void termCommands_parametersInTheirOrder() {
        FloatingDock dock = new FloatingDock();
        Docks.run(dock, "ship 30 5 7;enter 0@9");
        Check.that("length", dock.freeMetres(), 30);
        Check.that("dirt", dock.dirtOf(0), 7);
        Check.that("position", dock.positionOf(0), 9);
        Docks.run(dock, "pass 48;pay 0+12");
        Check.that("coins", dock.paidTotal(), 12);
    }

    /** Just inside and just outside of what the method takes. */
    private static void limit(String inside, String outside) {
        String[] prepared = {"", "ship 10 20 0;enter 0@0;pass 1;", "close;pump -30;pass 4;"};
        boolean succeeded = false;
        for (String before : prepared) {
            succeeded |= Docks.run(new FloatingDock(), before + inside) instanceof Integer;
            Check.that(before + outside, Docks.run(new FloatingDock(), before + outside), FAILED);
        }
        Check.that(inside, succeeded, true);
    }

    static void termCommands_theMethodsLimits() {
        limit("ship 5 5 0", "ship 4 5 0");
        limit("ship 30 80 99", "ship 31 80 99");
        limit("ship 30 80 99", "ship 30 81 99");
        limit("ship 30 80 99", "ship 30 80 100");
        limit("ship 5 5 5;enter 0@55", "ship 5 5 5;enter 0@56");
        limit("pump 30", "pump 31");
        limit("pump -30", "pump -31");
        limit("pass 1", "pass 0");
        limit("pass 48", "pass 49");
        limit("block 0", "block 60");
        limit("block 59", "block 60");
        limit("block 7;unblock 7", "block 7;unblock 8");
        limit("pay 0+2", "pay 0+3");
        limit("pay 0+1", "pay 0+0");
        limit("clean 0", "clean 9");
        limit("stop 0", "stop 9");
        limit("pay 0+2;leave 0", "pay 0+1;leave 0");
    }

    static void termCommands_cleanStartsAndStopStops() {
        FloatingDock dock = Docks.withShips(10);
        dock.enter(0, 0);
        Docks.run(dock, "clean 0");
        Check.that("started", dock.setCleaning(0, true), true);
        Docks.run(dock, "stop 0");
        Check.that("stopped", dock.setCleaning(0, true), false);
    }

    static void termCommands_openOpensAndCloseCloses() {
        FloatingDock dock = new FloatingDock();
        Docks.run(dock, "close");
        Check.that("closed", dock.isGateOpen(), false);
        Docks.run(dock, "open");
        Check.that("open", dock.isGateOpen(), true);
    }
}
