import java.io.IOException;

/** Runs every test of the project; its arguments are the program's file and README.md. */
public final class AllTests {
    public static void main(String[] args) throws IOException {
        if (args.length != 2) {
            System.out.println("usage: AllTests src/main/java/BittenBoards.java README.md");
            System.exit(2);
        }
        Checks checks = new Checks();
        PromiseTests.run(checks);
        TermsTests.run(checks);
        BoundTests.run(checks);
        RefusalTests.run(checks);
        EffectTests.run(checks);
        ReferenceTests.run(checks);
        LanguageTests.run(checks, args[0]);
        ReadmeTests.run(checks, args[1]);
        System.out.println("own: " + checks.passed() + " passed, " + checks.failed() + " failed");
        if (checks.failed() > 0) {
            System.exit(1);
        }
    }
}
