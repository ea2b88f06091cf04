import java.io.IOException;

/** Runs every test of the project; its argument is the program's file. */
public final class AllTests {
    public static void main(String[] args) throws IOException {
        if (args.length != 1) {
            System.out.println("usage: AllTests src/main/java/BittenBoards.java");
            System.exit(2);
        }
        Checks checks = new Checks();
        PromiseTests.run(checks);
        BoundTests.run(checks);
        RefusalTests.run(checks);
        EffectTests.run(checks);
        ReferenceTests.run(checks);
        LanguageTests.run(checks, args[0]);
        System.out.println("own: " + checks.passed() + " passed, " + checks.failed() + " failed");
        if (checks.failed() > 0) {
            System.exit(1);
        }
    }
}
