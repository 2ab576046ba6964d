final class ShipPromises { static void runAll() { } }
