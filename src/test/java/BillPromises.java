final class BillPromises { static void runAll() { } }
