final class WaterPromises { static void runAll() { } }
