public final class PromiseTests { static void run(Checks c) {} }
