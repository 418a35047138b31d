import java.nio.file.Path;

/** Each sentence of the document: its boundary cases, and that none of them is left out. */
final class EdgesTest {
    private EdgesTest() {
    }

    public static void main(String[] args) throws Exception {
        EdgesOfTerms.all();
        EdgesOfRows.all();
        EdgesOfHalls.all();
        EdgesOfDeeds.all();
        EdgesOfCalls.all();
        EdgesOfKinds.all();
        EdgesOfLots.all();
        EdgesOfTold.all();
        Doc.compare(Path.of(args.length > 0 ? args[0] : ".", "../shared/DOC.md"));
        Checks.end();
    }
}
