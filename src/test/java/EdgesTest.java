/**
 * Every sentence of the promises, and every word of the parts I to V, has a test of its own here that
 * looks at its edges: too small, too large, empty, full, round the edge, refused.
 */
public final class EdgesTest {
    public static void main(String[] args) {
        EdgesOfTelling.run();
        EdgesOfDoing.run();
        EdgesOfAsking.run();
        EdgesOfPlans.run();
        Doc.allPromisesQuoted();
        EdgesOfTerms.run();
        EdgesOfTexts.run();
        EdgesOfParts.run();
        Doc.allQuoted("CELLS 0 .. 29:", "The constants: ");
        Check.finish();
    }
}
