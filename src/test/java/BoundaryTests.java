/** For each sentence of the document that names a boundary case, a test of its own. */
public final class BoundaryTests {
    private BoundaryTests() {
    }

    public static void main(String[] args) {
        ObjectBounds.run();
        StoreBounds.run();
        ReferenceBounds.run();
        WalkBounds.run();
        PackBounds.run();
        LineBounds.run();
        MendBounds.run();
        ArgumentBounds.run();
        if (!Trial.report()) {
            System.exit(1);
        }
    }
}
