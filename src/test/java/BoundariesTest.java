/** Each sentence of the document that names a boundary case has a test of its own. */
public final class BoundariesTest extends TestCourt {
    private static final int PROMISES = 30;

    private BoundariesTest() { }

    public static void main(String[] args) throws Exception {
        LawBoundaries.run();
        HearingBoundaries.run();
        CallBoundaries.run();
        RefusalBoundaries.run();
        String[] sections = new String[PROMISES + 1];
        sections[0] = "Terms";
        for (int i = 1; i <= PROMISES; i++) {
            sections[i] = "Promise " + i + ":";
        }
        compareWithDocument(sections);
        end();
    }
}
