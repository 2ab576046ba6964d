import java.io.IOException;
import java.io.UncheckedIOException;
import java.lang.reflect.Constructor;
import java.lang.reflect.Field;
import java.lang.reflect.Method;
import java.lang.reflect.Modifier;
import java.nio.file.Files;
import java.nio.file.Path;
import java.util.ArrayList;
import java.util.List;
import java.util.Set;
import java.util.TreeSet;
import java.util.regex.Matcher;
import java.util.regex.Pattern;

/** The public face: just the document's methods, with its parameters and exceptions. */
final class FaceTest {

    private static final String[] DUE = {
        "int addShip(int,int,int) throws IllegalArgumentException,IllegalStateException",
        "int removeShip(int) throws NoSuchElementException,IllegalStateException",
        "int enter(int,int) throws NoSuchElementException,IllegalArgumentException,"
            + "IllegalStateException,UnsupportedOperationException",
        "int leave(int) throws NoSuchElementException,IllegalStateException,"
            + "UnsupportedOperationException",
        "boolean setCleaning(int,boolean) throws NoSuchElementException,IllegalStateException",
        "int shipCount()",
        "int shipAt(int) throws IndexOutOfBoundsException",
        "boolean isInDock(int) throws NoSuchElementException",
        "int positionOf(int) throws NoSuchElementException,IllegalStateException",
        "int dirtOf(int) throws NoSuchElementException",
        "int damageOf(int) throws NoSuchElementException",
        "int hoursAfloat(int) throws NoSuchElementException",
        "boolean isAfloat(int) throws NoSuchElementException",
        "int refusalReason() throws NoSuchElementException",
        "boolean setGate(boolean) throws UnsupportedOperationException",
        "boolean isGateOpen()",
        "int setPump(int) throws IllegalArgumentException",
        "int level()",
        "int seaLevel(int) throws IllegalArgumentException",
        "int seaLevelByHours(int) throws IllegalArgumentException",
        "int pass(int) throws IllegalArgumentException",
        "int hour()",
        "int levelAfter(int) throws IllegalArgumentException",
        "int hoursUntilAfloat(int) throws NoSuchElementException,IllegalStateException",
        "int placeBlock(int) throws IllegalArgumentException,IllegalStateException,"
            + "UnsupportedOperationException",
        "int removeBlock(int) throws IllegalArgumentException,NoSuchElementException,"
            + "UnsupportedOperationException",
        "boolean hasBlock(int) throws IllegalArgumentException",
        "int blocksBeneath(int) throws NoSuchElementException",
        "int blocksBeneathByBlocks(int) throws NoSuchElementException",
        "int shipAtPosition(int) throws IllegalArgumentException,NoSuchElementException",
        "int firstGap(int) throws IllegalArgumentException,NoSuchElementException",
        "int firstGapByShips(int) throws IllegalArgumentException,NoSuchElementException",
        "int freeMetres()",
        "int mostFitting()",
        "int mostFittingByTable()",
        "int mostFittingMetres()",
        "int billOf(int) throws NoSuchElementException",
        "int pay(int,int) throws NoSuchElementException,IllegalArgumentException,"
            + "IllegalStateException",
        "int billTotal()",
        "int billTotalByAccount()",
        "int paidTotal()",
        "int shipAtRank(int) throws IndexOutOfBoundsException",
        "int append(char) throws IllegalArgumentException,IllegalStateException",
        "int run() throws IllegalArgumentException,IllegalStateException",
        "int errorPosition() throws NoSuchElementException",
        "int failedCommand() throws NoSuchElementException",
        "int describeDock()",
        "int describeBill(int) throws NoSuchElementException",
        "char lineAt(int) throws IndexOutOfBoundsException",
        "double meanDirt() throws ArithmeticException",
        "float takenShare()",
        "boolean isConsistent()",
        "int undo() throws IllegalStateException",
        "int save()",
        "int restore() throws IllegalStateException"};

    private static final Path SOURCE = Path.of("src/main/java/FloatingDock.java");
    private static final Pattern HEADING = Pattern.compile(" {4}// (---- .*)");
    private static final Pattern MEMBER = Pattern.compile(" {4}public (?:\\w+ )?(\\w+)\\(.*");

    /** The first method of each part of the interface, with what stands ahead of it. */
    private static final String[][] PARTS = {
        {"addShip", "---- ships"},
        {"setGate", "---- water"},
        {"placeBlock", "---- blocks and gaps"},
        {"billOf", "---- bills"},
        {"append", "---- commands"},
        {"describeDock", "---- line, statistics, undo, snapshot"}};

    private FaceTest() {
    }

    static void runAll() {
        Set<String> found = new TreeSet<>();
        Set<String> publicNames = new TreeSet<>();
        Set<String> privateNames = new TreeSet<>();
        for (Method method : FloatingDock.class.getDeclaredMethods()) {
            if (Modifier.isPrivate(method.getModifiers())) {
                privateNames.add(method.getName());
            } else {
                publicNames.add(method.getName());
                found.add(told(method));
            }
        }
        for (Class<?> inside : FloatingDock.class.getDeclaredClasses()) {
            for (Method method : inside.getDeclaredMethods()) {
                privateNames.add(method.getName());
            }
        }
        Check.that("face: methods", found, new TreeSet<>(Set.of(DUE)));
        privateNames.retainAll(publicNames);
        Check.that("face: no private method bears a public name", privateNames, Set.of());
        for (Field field : FloatingDock.class.getDeclaredFields()) {
            Check.that("face: private " + field.getName(),
                    Modifier.isPrivate(field.getModifiers()), true);
        }
        Check.that("face: constructors", toldConstructors(), "[public FloatingDock()]");
        Check.that("face: the class", Modifier.toString(FloatingDock.class.getModifiers()),
                "public final");
        Check.that("face: the order of its parts", foundParts(), dueParts());
    }

    private static String toldConstructors() {
        List<String> told = new ArrayList<>();
        for (Constructor<?> constructor : FloatingDock.class.getDeclaredConstructors()) {
            told.add(constructor.toGenericString());
        }
        return told.toString();
    }

    private static List<String> foundParts() {
        List<String> found = new ArrayList<>();
        try {
            for (String row : Files.readAllLines(SOURCE)) {
                Matcher heading = HEADING.matcher(row);
                Matcher member = MEMBER.matcher(row);
                if (heading.matches()) {
                    found.add(heading.group(1));
                } else if (member.matches()) {
                    found.add(member.group(1));
                }
            }
        } catch (IOException thrown) {
            throw new UncheckedIOException(thrown);
        }
        // A heading of the program's own stands behind the last public method.
        int last = found.lastIndexOf("restore");
        return found.subList(0, last + 1);
    }

    private static List<String> dueParts() {
        List<String> due = new ArrayList<>();
        due.add("FloatingDock");
        for (String method : DUE) {
            String name = method.substring(method.indexOf(' ') + 1, method.indexOf('('));
            for (String[] part : PARTS) {
                if (part[0].equals(name)) {
                    due.add(part[1]);
                }
            }
            due.add(name);
        }
        return due;
    }

    private static String told(Method method) {
        String whole = method.toGenericString().replace("java.lang.", "").replace("java.util.", "");
        return whole.replace("public ", "").replace("FloatingDock.", "");
    }
}
