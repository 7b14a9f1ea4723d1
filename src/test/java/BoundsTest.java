/** Each sentence of the document that names a boundary, quoted, and answers on both sides of it. */
final class BoundsTest {
    private BoundsTest() {
    }

    public static void main(String[] args) {
        BoundsText.all();
        BoundsTangles.all();
        BoundsActs.all();
        Doc.allQuoted();
        Due.end("BoundsTest");
    }
}
