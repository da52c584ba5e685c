/** Every sentence of the document that names a boundary: each has answers of its own, and none is left out. */
public final class EdgesTest {
    public static void main(String[] args) throws Exception {
        Doc.open();
        TermsEdges.look();
        CushionEdges.look();
        TextEdges.look();
        DayEdges.look();
        DoneEdges.look();
        ForetoldEdges.look();
        ImageEdges.look();
        SheetsEdges.look();
        Doc.isWhole();
        Due.end();
    }
}
