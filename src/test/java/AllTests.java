/** Runs every test of the project. */
public final class AllTests {

    private AllTests() {
    }

    public static void main(String[] arguments) {
        FaceTest.runAll();
        ShipPromises.runAll();
        WaterPromises.runAll();
        BlockPromises.runAll();
        BillPromises.runAll();
        CommandPromises.runAll();
        StatePromises.runAll();
        NamedTests.runAll(ShipBoundaries.class, WaterBoundaries.class, BlockBoundaries.class,
                BillBoundaries.class, CommandBoundaries.class, StateBoundaries.class,
                TermBoundaries.class, HourBoundaries.class, ChangeBoundaries.class,
                ExceptionBoundaries.class);
        RandomRuns.runAll();
        Check.printCounts();
        if (Check.failures() > 0) {
            System.exit(1);
        }
    }
}
