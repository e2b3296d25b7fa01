/** The section "Terms", sentence by sentence: each part of each sentence has a test in one of the classes named here. */
public final class EdgesOfTermsTest {
    private EdgesOfTermsTest() {
    }

    public static void main(String[] args) {
        Tests.runAll(TermsOfTheQuay.class);
        Tests.runAll(TermsOfMessages.class);
        Tests.runAll(TermsOfDeliveries.class);
        Tests.runAll(TermsOfSlotsAndLog.class);
        Document.requireTerms();
        Check.end();
    }
}
