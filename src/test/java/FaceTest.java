final class FaceTest { static void runAll() { } }
