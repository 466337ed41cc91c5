/** Each sentence of the document that names a boundary, from both sides. */
public final class BoundaryTest {
    public static void main(String[] args) {
        BoundaryTerms.all();
        BoundaryTape.all();
        BoundaryStrips.all();
        BoundaryCalls.all();
        BoundaryPrizes.all();
        BoundaryChances.all();
        BoundarySlots.all();
        Boundary.endAll();
    }
}
