/** For each sentence of the document, calls at the last value inside and at the first one outside. */
public final class EdgeTest {
    private EdgeTest() {
    }

    public static void main(String[] args) {
        EdgeFace.run();
        EdgeText.run();
        EdgeDays.run();
        EdgeCalls.run();
        Desk.allOfItIsNamed();
        Desk.finish();
    }
}
