/** Runs every test of the project; ends with exit code 1 if one fails. */
public final class AllTests {
    private AllTests() {
    }

    public static void main(String[] args) {
        PlanPromises.run();
        SheetPromises.run();
        WhatIfPromises.run();
        TextPromises.run();
        StatePromises.run();
        PlanEdges.run();
        SheetEdges.run();
        WhatIfEdges.run();
        TextEdges.run();
        StateEdges.run();
        RefusedCalls.run();
        PlainSentences.run();
        Due.test("no sentence of the document is without a test",
            () -> Due.equal("sentences without a test", Document.unquoted(), java.util.List.of()));
        ModelRuns.run();
        RulesOfTheLanguage.run();
        CallsOfTheProgram.run();
        Readme.run();
        if (!Due.close()) {
            System.exit(1);
        }
    }
}
