final class CommandPromises { static void runAll() { } }
