/** Each sentence of the document that names a boundary case, with a test of its own; and that none is left out. */
final class EdgesTest {
    public static void main(String[] args) {
        WorkEdges.all();
        RoomEdges.all();
        LoanEdges.all();
        CrateEdges.all();
        WallEdges.all();
        HangingEdges.all();
        TourEdges.all();
        Document.tellUnnamed();
        Due.end();
    }
}
