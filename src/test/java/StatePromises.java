final class StatePromises { static void runAll() { } }
