/** Each sentence of the document that names a boundary: a test of its own, on both sides of it. */
public final class BoundsTest {
    public static void main(String[] args) {
        TermsOfGraph.run();
        TermsOfMachines.run();
        TermsOfTransactions.run();
        TermsOfPatterns.run();
        TermsOfExceptions.run();
        BoundsOfWrites.run();
        BoundsOfMachines.run();
        BoundsOfTransactions.run();
        BoundsOfPatterns.run();
        BoundsOfWalks.run();
        Doc.end();
        Check.end();
    }
}
