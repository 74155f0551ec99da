/** Runs every test of the project; ends with exit code 1 if one fails. */
public final class AllTests {
    private AllTests() {
    }

    public static void main(String[] args) {
        PlanPromises.run();
        SheetPromises.run();
        WhatIfPromises.run();
        TextPromises.run();
        StatePromises.run();
        PlanEdges.run();
        SheetEdges.run();
        WhatIfEdges.run();
        TextEdges.run();
        StateEdges.run();
        RefusedCalls.run();
        ModelRuns.run();
        RulesOfTheLanguage.run();
        if (!Due.close()) {
            System.exit(1);
        }
    }
}
