/** Every sentence of the document, one after the other, with the boundary cases that it names. */
final class EdgesTest {
    private EdgesTest() {
    }

    public static void main(String[] args) {
        ErrorEdges.run();
        DescriptionEdges.run();
        ComparisonEdges.run();
        TextEdges.run();
        DraftEdges.run();
        ChangeEdges.run();
        EditEdges.run();
        SheetEdges.run();
        Sentences.allQuoted();
        Check.finish();
    }
}
