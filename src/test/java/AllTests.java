/** Runs every test of the project; ends with exit code 1 if one fails. */
public final class AllTests {
    private AllTests() {
    }

    public static void main(String[] args) throws Exception {
        TellingTest.run();
        DayTest.run();
        SendingTest.run();
        RiddleTest.run();
        OracleTest.run();
        TextFuzzTest.run();
        LanguageTest.run();
        TextEdgeTest.run();
        TellEdgeTest.run();
        DayEdgeTest.run();
        SendEdgeTest.run();
        RiddleEdgeTest.run();
        Document.check();
        Example.run();
        System.out.println(Bench.passed + " passed, " + Bench.failed + " failed");
        if (Bench.failed != 0) {
            System.exit(1);
        }
    }
}
