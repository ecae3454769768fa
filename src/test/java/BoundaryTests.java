import java.io.IOException;
import java.nio.file.Files;
import java.nio.file.Path;

/** One test for each sentence of the document that names a boundary; each names its promise. */
public final class BoundaryTests {
    public static void main(String[] args) throws IOException {
        theBusyCapital();
        TextBoundaries.all();
        CapitalBoundaries.all();
        DeedBoundaries.all();
        WayBoundaries.all();
        CrowdBoundaries.all();
        GateBoundaries.all();
        KindBoundaries.all();
        Boundary.allPromisesAreNamed();
        Path document = Path.of("../shared/DOC.md");
        if (Files.exists(document)) {
            Boundary.allWordsStandIn(Files.readString(document));
        }
        Checks.end();
    }

    /** It is as the tests that use it take it to be. */
    private static void theBusyCapital() {
        Checks.part("the busy capital");
        ElbowRanks x = Boundary.busy();
        Boundary.counts("busy", x, 3, 3, 4, 4, 1, 2, 5, 2);
        int[] elbows = {5, 4, 5, 0};
        int[] places = {0, 2, 2, 2};
        int[] gaveWay = {0, 1, 0, 0};
        for (int p = 0; p < 4; p++) {
            Checks.due("elbow of " + p, x.person(p, 0), elbows[p]);
            Checks.due("where " + p + " is", x.person(p, 1), places[p]);
            Checks.due("how often " + p + " gave way", x.person(p, 3), gaveWay[p]);
        }
        Checks.due("closed", x.now(0), 4);
        Checks.due("trace", x.trace(), 11);
        Checks.due("image 1", x.back(1), Boundary.STATE);
        Checks.due("image 0", x.back(0), 1);
        Checks.due("what image 0 has to be undone", x.count(6), 3);
    }
}
