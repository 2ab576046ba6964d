final class BlockPromises { static void runAll() { } }
