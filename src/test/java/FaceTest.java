import java.lang.reflect.Field;
import java.lang.reflect.Method;
import java.lang.reflect.Modifier;
import java.util.Set;
import java.util.TreeSet;

/** The public face: just the document's methods, with its parameters and exceptions. */
final class FaceTest {

    private static final String[] DUE = {
        "int addShip(int,int,int) throws IllegalArgumentException,IllegalStateException",
        "int removeShip(int) throws NoSuchElementException,IllegalStateException",
        "int enter(int,int) throws NoSuchElementException,IllegalArgumentException,"
            + "IllegalStateException,UnsupportedOperationException",
        "int leave(int) throws NoSuchElementException,IllegalStateException,"
            + "UnsupportedOperationException",
        "boolean setCleaning(int,boolean) throws NoSuchElementException,IllegalStateException",
        "int shipCount()",
        "int shipAt(int) throws IndexOutOfBoundsException",
        "boolean isInDock(int) throws NoSuchElementException",
        "int positionOf(int) throws NoSuchElementException,IllegalStateException",
        "int dirtOf(int) throws NoSuchElementException",
        "int damageOf(int) throws NoSuchElementException",
        "int hoursAfloat(int) throws NoSuchElementException",
        "boolean isAfloat(int) throws NoSuchElementException",
        "int refusalReason() throws NoSuchElementException",
        "boolean setGate(boolean) throws UnsupportedOperationException",
        "boolean isGateOpen()",
        "int setPump(int) throws IllegalArgumentException",
        "int level()",
        "int seaLevel(int) throws IllegalArgumentException",
        "int seaLevelByHours(int) throws IllegalArgumentException",
        "int pass(int) throws IllegalArgumentException",
        "int hour()",
        "int levelAfter(int) throws IllegalArgumentException",
        "int hoursUntilAfloat(int) throws NoSuchElementException,IllegalStateException",
        "int placeBlock(int) throws IllegalArgumentException,IllegalStateException,"
            + "UnsupportedOperationException",
        "int removeBlock(int) throws IllegalArgumentException,NoSuchElementException,"
            + "UnsupportedOperationException",
        "boolean hasBlock(int) throws IllegalArgumentException",
        "int blocksBeneath(int) throws NoSuchElementException",
        "int blocksBeneathByBlocks(int) throws NoSuchElementException",
        "int shipAtPosition(int) throws IllegalArgumentException,NoSuchElementException",
        "int firstGap(int) throws IllegalArgumentException,NoSuchElementException",
        "int firstGapByShips(int) throws IllegalArgumentException,NoSuchElementException",
        "int freeMetres()",
        "int mostFitting()",
        "int mostFittingByTable()",
        "int mostFittingMetres()",
        "int billOf(int) throws NoSuchElementException",
        "int pay(int,int) throws NoSuchElementException,IllegalArgumentException,"
            + "IllegalStateException",
        "int billTotal()",
        "int billTotalByAccount()",
        "int paidTotal()",
        "int shipAtRank(int) throws IndexOutOfBoundsException",
        "int append(char) throws IllegalArgumentException,IllegalStateException",
        "int run() throws IllegalArgumentException,IllegalStateException",
        "int errorPosition() throws NoSuchElementException",
        "int failedCommand() throws NoSuchElementException",
        "int describeDock()",
        "int describeBill(int) throws NoSuchElementException",
        "char lineAt(int) throws IndexOutOfBoundsException",
        "double meanDirt() throws ArithmeticException",
        "float takenShare()",
        "boolean isConsistent()",
        "int undo() throws IllegalStateException",
        "int save()",
        "int restore() throws IllegalStateException"};

    private FaceTest() {
    }

    static void runAll() {
        Set<String> found = new TreeSet<>();
        Set<String> publicNames = new TreeSet<>();
        Set<String> privateNames = new TreeSet<>();
        for (Method method : FloatingDock.class.getDeclaredMethods()) {
            if (Modifier.isPrivate(method.getModifiers())) {
                privateNames.add(method.getName());
            } else {
                publicNames.add(method.getName());
                found.add(told(method));
            }
        }
        for (Class<?> inside : FloatingDock.class.getDeclaredClasses()) {
            for (Method method : inside.getDeclaredMethods()) {
                privateNames.add(method.getName());
            }
        }
        Check.that("face: methods", found, new TreeSet<>(Set.of(DUE)));
        privateNames.retainAll(publicNames);
        Check.that("face: no private method bears a public name", privateNames, Set.of());
        for (Field field : FloatingDock.class.getDeclaredFields()) {
            Check.that("face: private " + field.getName(),
                    Modifier.isPrivate(field.getModifiers()), true);
        }
        Check.that("face: one constructor", FloatingDock.class.getConstructors().length, 1);
        Check.that("face: final", Modifier.isFinal(FloatingDock.class.getModifiers()), true);
    }

    private static String told(Method method) {
        String whole = method.toGenericString().replace("java.lang.", "").replace("java.util.", "");
        return whole.replace("public ", "").replace("FloatingDock.", "");
    }
}
