/** Each sentence of the document that names a boundary, by a test of its own that quotes it. */
public final class EdgeTest {
    private static final int PROMISES = 47;

    private EdgeTest() {
    }

    public static void main(String[] args) {
        EdgeText.run();
        EdgeCourt.run();
        EdgeCounsel.run();
        EdgeHearsay.run();
        EdgeRefused.run();
        Check.allPromises(PROMISES);
        Check.finish();
    }
}
