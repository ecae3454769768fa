/** For each promise of the document the ordinary inputs, the edges that it names, and wrong inputs. */
public final class PromiseTests {
    private static final int BAD = -1, STATE = -2, FULL = -3, NONE = -9, NO = -1000000;
    private static final int LOW = Integer.MIN_VALUE, HIGH = Integer.MAX_VALUE;

    /** Two PLACES, four LANES side by side: 30, 20, 14 and 9 inches; PEOPLE 4 to 14 WIDE. */
    private static final String STREETS =
            "l0 1 30;l1 0 20;l0 1 14;l0 1 9; p5 0; p3 1; p5 1; p0 0;";
    /** A ring of five PLACES (14, 8, 18, 10, 25 inches) and a LANE across it; BODY 3. */
    private static final String RING =
            "n5; l0 1 14; l1 2 8; l2 3 18; l3 4 10; l4 0 25; l1 3 12; p3 0; p5 2; p1 3; p7 4; b3;";

    public static void main(String[] args) {
        theFace();
        aNewObject();
        typing();
        clearing();
        capitalReads();
        capitalFaults();
        capitalBeginsAnew();
        lanes();
        persons();
        going();
        meetingInFact();
        claiming();
        patents();
        shutting();
        undoing();
        now();
        ways();
        lacking();
        needing();
        odds();
        meetings();
        theatres();
        narrowing();
        ordering();
        gates();
        forgetting();
        fitting();
        marks();
        images();
        counting();
        traces();
        Checks.end();
    }

    private static void due(String what, long got, long want) {
        Checks.due(what, got, want);
    }

    private static void theFace() {
        Checks.part("constants");
        due("BAD", ElbowRanks.BAD, -1);
        due("STATE", ElbowRanks.STATE, -2);
        due("FULL", ElbowRanks.FULL, -3);
        due("NONE", ElbowRanks.NONE, -9);
        due("NO", ElbowRanks.NO, -1000000);
    }

    private static void aNewObject() {
        Checks.part("1 a new object");
        ElbowRanks x = new ElbowRanks();
        int[] counts = {2, 0, 0, 4, 1, 0, 0, 0};
        for (int what = 0; what < counts.length; what++) {
            due("count " + what, x.count(what), counts[what]);
        }
        for (int what = 0; what < 4; what++) {
            due("now " + what, x.now(what), 0);
        }
        due("trace", x.trace(), 0);
        due("undo", x.undo(), STATE);
        due("lane", x.lane(0, 0), BAD);
        due("person", x.person(0, 0), BAD);
        due("back 0", x.back(0), STATE);
        due("back 1", x.back(1), STATE);
        due("forget", x.forget(), 0);
        due("clear", x.clear(), 0);
        due("theatre", x.theatre(1, -1), 0);
    }

    private static void typing() {
        Checks.part("2 type");
        ElbowRanks x = new ElbowRanks();
        due("0", x.type(0), 1);
        due("255", x.type(255), 2);
        due("256", x.type(256), BAD);
        due("-1", x.type(-1), BAD);
        due("low", x.type(LOW), BAD);
        due("high", x.type(HIGH), BAD);
        for (int had = 2; had < 150; had++) {
            due("byte " + had, x.type(32), had + 1);
        }
        due("byte 151", x.type(32), FULL);
        due("BAD ahead of FULL", x.type(256), BAD);
        due("all are kept", x.count(7), 150);
        // The first byte that stands there is the first of them.
        due("what was typed", x.capital(), -10);
        due("clear", x.clear(), 150);
        due("there is room again", x.type('b'), 1);
    }

    private static void clearing() {
        Checks.part("3 clear");
        ElbowRanks x = Checks.told("n3;p2 2;");
        Checks.type(x, "b3;x");
        due("had", x.clear(), 4);
        due("has", x.count(7), 0);
        due("again", x.clear(), 0);
        due("what was told stays", x.count(0), 3);
        due("nobody goes", x.person(0, 1), 2);
        due("an empty text", x.capital(), 0);
    }

    private static void capitalReads() {
        Checks.part("4 capital reads");
        itemsOf("", 0);
        itemsOf("   ", 0);
        itemsOf("n2;", 1);
        itemsOf("n8;", 1);
        itemsOf("  n 5 ;  l 0 4 40 ; ", 2);
        itemsOf("l0 1 1;l1 0 40;", 2);
        itemsOf("b1;", 1);
        itemsOf("b9;e0;", 2);
        itemsOf("e3;b1;", 2);
        itemsOf("n8;p9 7;p0 0;p1 1;p2 2;p3 3;", 6);
        itemsOf("l0 1 1;l0 1 1;l0 1 1;l0 1 1;l0 1 1;l0 1 1;l0 1 1;l0 1 1;", 8);
        itemsOf("b3;p0 0;l0 1 9;e2;p1 1;", 5);
        ElbowRanks x = Checks.told("n7; b9; l6 0 40; e3; p9 6; l0 6 1;");
        due("places", x.count(0), 7);
        due("lanes", x.count(1), 2);
        due("people", x.count(2), 1);
        due("body", x.count(3), 9);
        due("error", x.count(4), 3);
        due("the text is empty", x.count(7), 0);
        due("first", x.lane(0, 0), 6);
        due("second", x.lane(0, 1), 0);
        due("width", x.lane(0, 2), 40);
        due("width of the other", x.lane(1, 2), 1);
        due("elbow", x.person(0, 0), 9);
        due("where", x.person(0, 1), 6);
    }

    private static void itemsOf(String text, int items) {
        ElbowRanks x = new ElbowRanks();
        Checks.type(x, text);
        due("\"" + text + "\"", x.capital(), items);
    }

    private static void capitalFaults() {
        Checks.part("4 capital faults");
        // The letters of ITEMS, and where they can't stand.
        faultOf("x1;", 0);
        faultOf("ll0 1 1;", 0);
        faultOf("  nb2;", 2);
        faultOf("1;", 0);
        faultOf(" ;", 1);
        faultOf("n2;;", 3);
        faultOf("b3;n4;", 3);
        faultOf("n3;n3;", 3);
        faultOf("b3;b3;", 3);
        faultOf("e1;p0 0;e1;", 8);
        faultOf("l0 1 1;l0 1 1;l0 1 1;l0 1 1;l0 1 1;l0 1 1;l0 1 1;l0 1 1; l0 1 1;", 57);
        faultOf("p0 0;p0 0;p0 0;p0 0;p0 0; p0 0;", 26);
        // What is told.
        faultOf("n1;", 1);
        faultOf("n9;", 1);
        faultOf("n;", 1);
        faultOf("nn;", 0);
        faultOf("n 3 4;", 4);
        faultOf("n3 b4;", 3);
        faultOf("l2 0 5;", 1);
        faultOf("l0 2 5;", 3);
        faultOf("n3;l0 3 5;", 6);
        faultOf("l1 1 5;", 3);
        faultOf("l0 1 0;", 5);
        faultOf("l0 1 41;", 5);
        faultOf("l0 1;", 4);
        faultOf("l0 1 5 5;", 7);
        faultOf("l0;", 2);
        faultOf("l01 5;", 1);
        faultOf("p10 0;", 1);
        faultOf("p9 2;", 3);
        faultOf("p9;", 2);
        faultOf("b0;", 1);
        faultOf("b10;", 1);
        faultOf("e4;", 1);
        // NUMBERS that are none, bytes that begin nothing.
        faultOf("b03;", 1);
        faultOf("b00;", 1);
        faultOf("l0 1 100;", 5);
        faultOf("l0 1 4294967301;", 5);
        faultOf("p0 00;", 3);
        faultOf("b-3;", 1);
        faultOf("B3;", 0);
        faultOf("b3:", 2);
        faultOf("b3;\t", 3);
        faultOf("b3;" + (char) 0, 3);
        faultOf("b3;" + (char) 255, 3);
        faultOf("b3;" + (char) ('a' - 1), 3);
        faultOf("b3;" + (char) ('z' + 1), 3);
        faultOf("b" + (char) ('0' - 1) + ";", 1);
        // It ends too early.
        faultOf("n", 1);
        faultOf("n3", 2);
        faultOf("n3  ", 4);
        faultOf("l0 1 5", 6);
        faultOf("l0 ", 3);
        faultOf("b3;p", 4);
        // The first fault counts.
        faultOf("b0;?", 1);
        faultOf("b?0;", 1);
        itChangesNothing();
    }

    private static void faultOf(String text, int fault) {
        ElbowRanks x = new ElbowRanks();
        Checks.type(x, text);
        due("\"" + text + "\"", x.capital(), -10 - fault);
        due("\"" + text + "\" stays", x.count(7), text.length());
    }

    private static void itChangesNothing() {
        ElbowRanks x = Checks.told(RING);
        x.goes(0, 0);
        x.shuts(4, 1);
        x.gate(1, 9);
        x.keep(0);
        Checks.type(x, "n3;l0 1 5;p9 0;b9;e0;");
        x.type('b');
        due("fault", x.capital(), -10 - 21);
        int[] counts = {5, 6, 4, 3, 1, 1, 2, 22};
        for (int what = 0; what < counts.length; what++) {
            due("count " + what, x.count(what), counts[what]);
        }
        due("where", x.person(0, 1), 1);
        due("elbow", x.person(0, 0), 3);
        due("width", x.lane(0, 2), 14);
        due("closed", x.now(0), 16);
        due("image", x.back(0), 1);
        due("undo", x.undo(), 1);
    }

    private static void capitalBeginsAnew() {
        Checks.part("4 capital, read anew");
        ElbowRanks x = Checks.told("n4;b9;e3;l0 1 20;l2 3 20;p1 0;p2 1;p2 1;");
        x.meets(0, 1, 0);
        x.shuts(1, 1);
        x.gate(0, 0);
        x.keep(0);
        x.keep(1);
        x.mark(5, 0);
        due("gave way", x.now(1), 1);
        Checks.type(x, "l0 1 9;p5 1;");
        due("items", x.capital(), 2);
        int[] counts = {2, 1, 1, 4, 1, 0, 0, 0};
        for (int what = 0; what < counts.length; what++) {
            due("count " + what, x.count(what), counts[what]);
        }
        due("all open", x.now(0), 0);
        due("none gave way", x.now(1), 0);
        due("elbows of those there are", x.now(2), 5);
        due("none is padded", x.now(3), 0);
        due("where", x.person(0, 1), 1);
        due("undo", x.undo(), STATE);
        due("image 0", x.back(0), STATE);
        due("image 1", x.back(1), STATE);
        due("the trace stays", x.trace(), 100001);
        due("a lane of before", x.lane(1, 0), BAD);
        due("a person of before", x.person(1, 0), BAD);
        due("he did not give way", x.person(0, 3), 0);
        // What the texts before the last told is gone as well.
        Checks.type(x, "e2;");
        due("items of the third", x.capital(), 1);
        int[] then = {2, 0, 0, 4, 2, 0, 0, 0};
        for (int what = 0; what < then.length; what++) {
            due("then count " + what, x.count(what), then[what]);
        }
        due("items of an empty text", x.capital(), 0);
        due("the error of none told", x.count(4), 1);
    }

    private static void lanes() {
        Checks.part("5 lane");
        ElbowRanks x = Checks.told(STREETS);
        due("0 0", x.lane(0, 0), 0);
        due("0 1", x.lane(0, 1), 1);
        due("1 0", x.lane(1, 0), 1);
        due("1 1", x.lane(1, 1), 0);
        due("2 2", x.lane(2, 2), 14);
        due("3 3", x.lane(3, 3), 0);
        x.shuts(3, 1);
        due("closed", x.lane(3, 3), 1);
        due("another one", x.lane(2, 3), 0);
        due("what 4", x.lane(0, 4), BAD);
        due("what -1", x.lane(0, -1), BAD);
        due("lane 4", x.lane(4, 0), BAD);
        due("lane -1", x.lane(-1, 0), BAD);
        due("low", x.lane(LOW, LOW), BAD);
        due("high", x.lane(HIGH, HIGH), BAD);
    }

    private static void persons() {
        Checks.part("6 person");
        ElbowRanks x = Checks.told(RING);
        due("elbow", x.person(1, 0), 5);
        due("where", x.person(1, 1), 2);
        due("wide", x.person(1, 2), 13);
        due("gave way", x.person(1, 3), 0);
        due("reach: one lane is wide enough", x.person(1, 4), 4 | 8);
        due("reach of one 9 wide", x.person(0, 4), 31);
        due("reach of one 17 wide", x.person(3, 4), 1 | 16);
        due("reach of one 5 wide", x.person(2, 4), 31);
        x.shuts(4, 1);
        due("reach of one who is shut in", x.person(3, 4), 16);
        x.patents(3, 0);
        due("reach as the elbows are now", x.person(3, 4), 31);
        due("what 5", x.person(0, 5), BAD);
        due("what -1", x.person(0, -1), BAD);
        due("person 4", x.person(4, 0), BAD);
        due("person -1", x.person(-1, 0), BAD);
        due("low", x.person(LOW, 0), BAD);
        due("high", x.person(HIGH, 0), BAD);
    }

    private static void going() {
        Checks.part("7 goes");
        ElbowRanks x = Checks.told("n3;l0 1 14;l2 1 13;p5 0;p4 1;");
        due("as wide as the lane", x.goes(0, 0), 1);
        due("he is there", x.person(0, 1), 1);
        due("and back", x.goes(0, 0), 0);
        due("he is not at its end", x.goes(0, 1), STATE);
        due("there again", x.goes(0, 0), 1);
        due("too narrow", x.goes(0, 1), STATE);
        due("from the second end", x.goes(1, 1), 2);
        x.shuts(1, 1);
        due("closed", x.goes(1, 1), STATE);
        due("refused ones change nothing", x.count(6), 5);
        due("person 2", x.goes(2, 0), BAD);
        due("lane 2", x.goes(0, 2), BAD);
        due("person -1", x.goes(-1, 0), BAD);
        due("lane -1", x.goes(0, -1), BAD);
        due("none gave way", x.now(1), 0);
    }

    private static void meetingInFact() {
        Checks.part("8 meets");
        // 14 and 10 inches in 24, 23, 13 and 14 of them.
        ElbowRanks x = Checks.told("n3;l0 1 24;l0 1 23;l0 1 13;l0 1 14;l1 2 40;p5 0;p3 1;p5 1;");
        due("both, just so", x.meets(0, 1, 0), 0);
        due("first where", x.person(0, 1), 1);
        due("second where", x.person(1, 1), 0);
        due("none gave way", x.now(1), 0);
        due("the second is greater", x.meets(1, 0, 1), 2);
        due("he passed", x.person(0, 1), 0);
        due("the first stays", x.person(1, 1), 0);
        due("the first gave way", x.person(1, 3), 1);
        due("the second did not", x.person(0, 3), 0);
        due("at one end", x.meets(0, 1, 0), STATE);
        x.goes(1, 0);
        due("the first is greater", x.meets(0, 1, 3), 1);
        due("he passed too", x.person(0, 1), 1);
        due("the second gave way", x.person(1, 3), 2);
        due("gave way in all", x.now(1), 2);
        x.goes(0, 0);
        due("one is wider", x.meets(0, 1, 2), STATE);
        due("the other is wider", x.meets(1, 0, 2), STATE);
        due("alike elbows", x.meets(0, 2, 1), 3);
        due("it is closed", x.lane(1, 3), 1);
        due("none moved", x.person(0, 1), 0);
        due("none moved either", x.person(2, 1), 1);
        due("none gave way then", x.now(1), 2);
        due("closed already", x.meets(0, 2, 1), STATE);
        due("not at its ends", x.meets(0, 1, 4), STATE);
        x.goes(0, 0);
        x.goes(0, 4);
        due("only one at its ends", x.meets(0, 1, 0), STATE);
        due("alike ones", x.meets(0, 0, 0), BAD);
        due("person 3", x.meets(0, 3, 0), BAD);
        due("person -1", x.meets(-1, 0, 0), BAD);
        due("lane 5", x.meets(0, 1, 5), BAD);
        due("lane -1", x.meets(0, 1, -1), BAD);
    }

    private static void claiming() {
        Checks.part("9 claims");
        ElbowRanks x = Checks.told("p7 0;p2 0;p7 0;p3 1;p9 0;");
        due("an inch", x.claims(0, 1), 8);
        due("his", x.person(0, 0), 8);
        due("the other's", x.person(1, 0), 1);
        due("another inch", x.claims(0, 1), 9);
        due("his is 9", x.claims(0, 2), STATE);
        due("the other has none", x.claims(2, 1), STATE);
        due("not greater", x.claims(1, 0), STATE);
        due("not at one place", x.claims(2, 3), STATE);
        due("9 takes none", x.claims(4, 2), STATE);
        x.patents(0, 7);
        due("alike elbows", x.claims(0, 2), STATE);
        due("refused ones change nothing", x.now(2), 7 + 0 + 7 + 3 + 9);
        due("alike ones", x.claims(0, 0), BAD);
        due("person 5", x.claims(0, 5), BAD);
        due("person -1", x.claims(-1, 0), BAD);
    }

    private static void patents() {
        Checks.part("10 patents");
        ElbowRanks x = Checks.told("p7 0;p2 0;");
        due("9", x.patents(0, 9), 7);
        due("0", x.patents(0, 0), 9);
        due("it is so", x.patents(0, 0), STATE);
        due("the elbow", x.person(0, 0), 0);
        due("the other one's", x.person(1, 0), 2);
        due("10", x.patents(0, 10), BAD);
        due("-1", x.patents(0, -1), BAD);
        due("person 2", x.patents(2, 0), BAD);
        due("person -1", x.patents(-1, 0), BAD);
        due("done", x.count(6), 2);
    }

    private static void shutting() {
        Checks.part("11 shuts");
        ElbowRanks x = Checks.told(STREETS);
        due("one", x.shuts(2, 1), 1);
        due("two", x.shuts(0, 1), 2);
        due("it is so", x.shuts(0, 1), STATE);
        due("an open one", x.shuts(1, 0), STATE);
        due("opened", x.shuts(2, 0), 1);
        due("which", x.now(0), 1);
        due("is 2", x.shuts(0, 2), BAD);
        due("is -1", x.shuts(0, -1), BAD);
        due("lane 4", x.shuts(4, 1), BAD);
        due("lane -1", x.shuts(-1, 1), BAD);
        due("done", x.count(6), 3);
    }

    private static void undoing() {
        Checks.part("12 undo");
        ElbowRanks x = Checks.told("l0 1 40;l0 1 21;p5 0;p3 1;p5 1;");
        x.meets(0, 1, 1);
        x.goes(1, 0);
        x.claims(0, 2);
        x.patents(1, 9);
        x.shuts(0, 1);
        x.shuts(0, 0);
        due("known", x.count(6), 5);
        due("opened", x.undo(), 4);
        due("closed again", x.now(0), 1);
        due("closed", x.undo(), 3);
        due("open again", x.now(0), 0);
        due("patent", x.undo(), 2);
        due("elbow of before", x.person(1, 0), 3);
        due("goes", x.undo(), 1);
        due("where he was", x.person(1, 1), 1);
        due("met", x.undo(), 0);
        due("where the winner was", x.person(0, 1), 0);
        due("none gave way", x.now(1), 0);
        due("none left", x.undo(), STATE);
        undoingWhatClosed();
        undoingTheLatestTen();
    }

    private static void undoingWhatClosed() {
        ElbowRanks x = Checks.told("l0 1 21;p5 0;p5 1;p6 0;p2 0;");
        x.gate(0, 14);
        due("like elbows", x.meets(0, 1, 0), 3);
        due("open again", x.undo() == 0 ? x.now(0) : -1, 0);
        due("claimed", x.claims(2, 3), 7);
        due("undone", x.undo(), 0);
        due("his elbow", x.person(2, 0), 6);
        due("the other's elbow", x.person(3, 0), 2);
        due("what was measured stays", x.count(5), 1);
    }

    private static void undoingTheLatestTen() {
        ElbowRanks x = Checks.told("l0 1 40;p0 0;");
        for (int e = 1; e <= 9; e++) {
            x.patents(0, e);
        }
        x.goes(0, 0);
        due("ten", x.count(6), 10);
        x.shuts(0, 1);
        due("no more than ten", x.count(6), 10);
        x.patents(0, 0);
        for (int left = 9; left >= 0; left--) {
            due("left", x.undo(), left);
        }
        due("the two oldest are lost", x.person(0, 0), 2);
        due("the others are not", x.person(0, 1), 0);
        due("no more", x.undo(), STATE);
        due("done again", x.patents(0, 5), 2);
        due("undone again", x.undo(), 0);
        due("as it was", x.person(0, 0), 2);
    }

    private static void now() {
        Checks.part("13 now");
        ElbowRanks x = Checks.told(STREETS);
        due("closed", x.now(0), 0);
        due("elbows", x.now(2), 13);
        due("padded", x.now(3), 0);
        x.shuts(1, 1);
        x.shuts(3, 1);
        due("closed ones", x.now(0), 2 | 8);
        x.meets(0, 1, 2);
        x.meets(3, 0, 2);
        due("gave way", x.now(1), 2);
        x.patents(0, 9);
        due("elbows now", x.now(2), 17);
        x.gate(1, 12);
        due("one is padded", x.now(3), 2);
        x.gate(3, 4);
        due("one is not", x.now(3), 2);
        x.gate(0, 14);
        due("by the elbow that he has now", x.now(3), 3);
        x.patents(0, 5);
        due("as measured", x.now(3), 2);
        due("4", x.now(4), BAD);
        due("-1", x.now(-1), BAD);
        due("low", x.now(LOW), BAD);
        due("high", x.now(HIGH), BAD);
    }

    private static void ways() {
        Checks.part("14 way");
        ElbowRanks x = Checks.told("n6;l3 1 9;l0 2 9;l0 1 9;l2 3 9;l1 3 9;l0 1 9;l3 4 10;l0 4 9;p2 0;p3 3;");
        due("how many", x.way(0, 3, -1), 2);
        due("first lane", x.way(0, 3, 0), 1);
        due("second lane", x.way(0, 3, 1), 3);
        due("third lane", x.way(0, 3, 2), NONE);
        due("far more", x.way(0, 3, HIGH), NONE);
        due("of lanes side by side", x.way(0, 1, 0), 2);
        due("where he is", x.way(0, 0, -1), 0);
        due("where he is, no lane", x.way(0, 0, 0), NONE);
        due("no way", x.way(0, 5, -1), NONE);
        due("no way, no lane", x.way(0, 5, 0), NONE);
        due("one 10 wide", x.way(1, 4, 0), 6);
        due("one 10 wide can't", x.way(1, 0, -1), NONE);
        x.shuts(1, 1);
        due("another way", x.way(0, 3, 0), 2);
        due("its end", x.way(0, 3, 1), 0);
        x.goes(0, 7);
        due("from where he is now", x.way(0, 3, -1), 1);
        due("by one lane", x.way(0, 3, 0), 6);
        due("i -2", x.way(0, 3, -2), BAD);
        due("i low", x.way(0, 3, LOW), BAD);
        due("i -2, no way", x.way(0, 5, -2), BAD);
        due("place 6", x.way(0, 6, -1), BAD);
        due("place -1", x.way(0, -1, -1), BAD);
        due("person 2", x.way(2, 0, -1), BAD);
        due("person -1", x.way(-1, 0, -1), BAD);
    }

    private static void lacking() {
        Checks.part("15 lacks");
        ElbowRanks x = Checks.told("n5;l0 1 10;l1 2 3;l0 3 7;l3 2 8;l0 2 1;p3 0;p0 0;");
        due("wide enough", x.lacks(0, 1), 0);
        due("the way that lacks least", x.lacks(0, 2), 3 + 2);
        due("one lane", x.lacks(0, 3), 3);
        due("where he is", x.lacks(0, 0), 0);
        due("no lane", x.lacks(0, 4), NONE);
        due("one who is narrow", x.lacks(1, 2), 0);
        x.shuts(3, 1);
        due("closed ones are no way", x.lacks(0, 2), 7);
        x.shuts(1, 1);
        due("straight", x.lacks(0, 2), 9);
        x.shuts(4, 1);
        due("none is open", x.lacks(0, 2), NONE);
        due("place 5", x.lacks(0, 5), BAD);
        due("place -1", x.lacks(0, -1), BAD);
        due("person 2", x.lacks(2, 0), BAD);
        due("person -1", x.lacks(-1, 0), BAD);
    }

    private static void needing() {
        Checks.part("16 must");
        ElbowRanks x = Checks.told("n6;l0 1 9;l1 2 9;l1 2 9;l2 3 9;l3 4 6;l2 4 5;p2 0;p1 0;");
        due("one lane", x.must(0, 1), 1);
        due("two side by side", x.must(0, 2), 1);
        due("farther", x.must(0, 3), 1 | 8);
        due("too narrow for him", x.must(0, 4), 0);
        due("wide enough for her", x.must(1, 4), 1 | 8 | 16);
        due("where he is", x.must(0, 0), 0);
        due("no lane", x.must(0, 5), 0);
        x.shuts(1, 1);
        due("one of two is closed", x.must(0, 3), 1 | 4 | 8);
        x.patents(1, 0);
        due("another way for one who is narrow", x.must(1, 4), 1 | 4);
        x.shuts(0, 1);
        due("shut in", x.must(0, 3), 0);
        due("place 6", x.must(0, 6), BAD);
        due("place -1", x.must(0, -1), BAD);
        due("person 2", x.must(2, 0), BAD);
        due("person -1", x.must(-1, 0), BAD);
    }

    private static void odds() {
        Checks.part("17 odds");
        ElbowRanks x = Checks.told("n4;l0 1 9;l0 1 9;l1 2 9;l1 2 8;p2 0;p3 0;");
        oddsOf(x, 0, 1, 5, 3, 4);
        oddsOf(x, 0, 1, 1, 99, 100);
        oddsOf(x, 0, 2, 5, 9, 16);
        oddsOf(x, 0, 2, 3, 8281, 10000);
        oddsOf(x, 0, 2, 0, 1, 1);
        oddsOf(x, 0, 2, 10, 0, 1);
        oddsOf(x, 0, 0, 10, 1, 1);
        oddsOf(x, 0, 0, 7, 1, 1);
        oddsOf(x, 0, 3, 0, 0, 1);
        oddsOf(x, 1, 1, 4, 0, 1);
        x.shuts(0, 1);
        oddsOf(x, 0, 1, 4, 3, 5);
        x.shuts(3, 1);
        oddsOf(x, 0, 2, 9, 1, 100);
        ElbowRanks y = Checks.told("n8;l0 1 9;l1 2 9;l2 3 9;l3 4 9;l4 5 9;l5 6 9;l6 7 9;l7 0 9;p0 0;");
        oddsOf(y, 0, 1, 1, 94782969, 100000000);
        oddsOf(y, 0, 0, 1, 1, 1);
        oddsOf(y, 0, 4, 5, 31, 256);
        due("what 2", x.odds(0, 1, 5, 2), BAD);
        due("what -1", x.odds(0, 1, 5, -1), BAD);
        due("x 11", x.odds(0, 1, 11, 0), BAD);
        due("x -1", x.odds(0, 1, -1, 0), BAD);
        due("place 4", x.odds(0, 4, 5, 0), BAD);
        due("place -1", x.odds(0, -1, 5, 0), BAD);
        due("person 2", x.odds(2, 0, 5, 0), BAD);
        due("person -1", x.odds(-1, 0, 5, 0), BAD);
    }

    private static void oddsOf(ElbowRanks x, int p, int to, int tenths, int upper, int lower) {
        String what = "odds of " + p + " to " + to + " by " + tenths;
        due(what + ", upper", x.odds(p, to, tenths, 0), upper);
        due(what + ", lower", x.odds(p, to, tenths, 1), lower);
    }

    private static void meetings() {
        Checks.part("18 meeting");
        // 14, 10, 14 and 4 inches in 30, 20, 14 and 9 of them.
        ElbowRanks x = Checks.told(STREETS);
        due("both", x.meeting(0, 1, 0), 0);
        due("the first", x.meeting(0, 1, 1), 1);
        due("the second", x.meeting(1, 0, 1), 2);
        due("none", x.meeting(0, 2, 1), 3);
        due("just both", x.meeting(1, 3, 2), 0);
        due("just wide enough", x.meeting(0, 3, 2), 1);
        due("the first is wider", x.meeting(0, 3, 3), 4);
        due("the second is wider", x.meeting(3, 0, 3), 4);
        x.shuts(3, 1);
        due("closed, whoever is wider", x.meeting(0, 3, 3), 5);
        due("closed", x.meeting(1, 3, 3), 5);
        due("nothing is done", x.count(6), 1);
        due("alike ones", x.meeting(1, 1, 0), BAD);
        due("person 4", x.meeting(0, 4, 0), BAD);
        due("person -1", x.meeting(-1, 0, 0), BAD);
        due("lane 4", x.meeting(0, 1, 4), BAD);
        due("lane -1", x.meeting(0, 1, -1), BAD);
    }

    private static void theatres() {
        Checks.part("19 theatre");
        // 6, 4, 6, 4 and 2 inches.
        ElbowRanks x = Checks.told("b2;p2 0;p1 1;p2 0;p1 0;p0 0;");
        seats(x, 22, 1, 0, 0, 0, 0, 0);
        seats(x, 20, 2, 0, 0, 0, 0, 1);
        seats(x, 12, 2, 0, 0, 1, 1, 0);
        seats(x, 11, 3, 0, 0, 1, 1, 2);
        seats(x, 10, 3, 0, 0, 1, 1, 2);
        seats(x, 6, 4, 0, 1, 2, 3, 1);
        due("one is wider", x.theatre(5, -1), NONE);
        due("one is wider, a person", x.theatre(5, 4), NONE);
        due("w 1", x.theatre(1, 0), NONE);
        due("w 99", x.theatre(99, -1), 1);
        due("w 0", x.theatre(0, -1), BAD);
        due("w 100", x.theatre(100, -1), BAD);
        due("w low", x.theatre(LOW, -1), BAD);
        due("person 5", x.theatre(10, 5), BAD);
        due("person 5, one is wider", x.theatre(5, 5), BAD);
        due("person -2", x.theatre(10, -2), BAD);
        due("nobody", new ElbowRanks().theatre(1, -1), 0);
        due("nobody, a person", new ElbowRanks().theatre(1, 0), BAD);
        // 3, 5, 7 and 5 inches: who sits where there is room first needs a third row.
        seats(Checks.told("b1;p1 0;p2 0;p3 0;p2 0;"), 10, 2, 0, 1, 0, 1);
        // The fifth is 20 WIDE then.
        x.patents(4, 9);
        seats(x, 20, 2, 0, 0, 0, 0, 1);
        due("one is wider now", x.theatre(19, -1), NONE);
    }

    private static void seats(ElbowRanks x, int w, int rows, int... row) {
        due("rows of " + w, x.theatre(w, -1), rows);
        for (int p = 0; p < row.length; p++) {
            due("row of " + p + " by " + w, x.theatre(w, p), row[p]);
        }
    }

    private static void narrowing() {
        Checks.part("20 narrow");
        // 42 inches together; 10, 6 and 10 of them are elbows.
        ElbowRanks x = Checks.told(STREETS);
        due("two", x.narrow(0), 3);
        due("three", x.narrow(1), 7);
        due("none by that", x.narrow(2), NONE);
        x.shuts(0, 1);
        due("open or not", x.narrow(0), 3);
        // 25 inches together; 2, 10 and 10 of them are elbows.
        ElbowRanks y = Checks.told("b1;l0 1 25;l0 1 24;l0 1 15;l0 1 14;l0 1 13;l0 1 3;l0 1 2;p1 0;p5 1;p5 0;");
        int[] needed = {0, 1, 2, 3, 3, 7, NONE};
        for (int l = 0; l < needed.length; l++) {
            due("lane " + l, y.narrow(l), needed[l]);
        }
        due("nothing is done", y.now(2), 11);
        y.patents(0, 9);
        due("by the elbows that they have now", y.narrow(1), 1);
        due("two again", y.narrow(2), 3);
        due("nobody", Checks.told("l0 1 1;").narrow(0), 0);
        due("lane 7", y.narrow(7), BAD);
        due("lane -1", y.narrow(-1), BAD);
    }

    private static void ordering() {
        Checks.part("21 order");
        ElbowRanks x = Checks.told(STREETS);
        int[] order = {0, 2, 1, 3};
        for (int i = 0; i < order.length; i++) {
            due("" + i, x.order(i), order[i]);
        }
        x.patents(3, 9);
        x.patents(2, 3);
        int[] then = {3, 0, 1, 2};
        for (int i = 0; i < then.length; i++) {
            due("then " + i, x.order(i), then[i]);
        }
        due("4", x.order(4), BAD);
        due("-1", x.order(-1), BAD);
        due("nobody", new ElbowRanks().order(0), BAD);
    }

    private static void gates() {
        Checks.part("22 gate");
        ElbowRanks x = Checks.told("p3 0;p0 0;");
        due("m -1", x.gate(0, -1), BAD);
        due("m 41", x.gate(0, 41), BAD);
        due("person 2", x.gate(2, 9), BAD);
        due("person -1", x.gate(-1, 9), BAD);
        due("m 0", x.gate(0, 0), 1);
        due("m 40", x.gate(1, 40), 2);
        for (int had = 2; had < 6; had++) {
            due("after " + had, x.gate(had % 2, 10), had + 1);
        }
        due("a seventh", x.gate(0, 10), FULL);
        due("BAD ahead of FULL", x.gate(0, 41), BAD);
        due("six", x.count(5), 6);
        due("none may be undone", x.undo(), STATE);
    }

    private static void forgetting() {
        Checks.part("23 forget");
        ElbowRanks x = Checks.told("p3 0;p0 0;");
        x.gate(0, 0);
        x.gate(1, 0);
        due("both padded", x.now(3), 3);
        due("two", x.forget(), 2);
        due("none", x.forget(), 0);
        due("none is padded", x.now(3), 0);
        due("all fit", x.fits(0), 1023);
        due("one again", x.gate(0, 10), 1);
    }

    private static void fitting() {
        Checks.part("24 fits");
        int[] inches = {0, 2, 3, 4, 5, 10, 11, 22, 23, 24, 40};
        int[] elbows = {0, 0, 1, 1, 3, 8, 24, 512, 512, 0, 0};
        for (int i = 0; i < inches.length; i++) {
            ElbowRanks x = Checks.told("p3 0;p0 0;");
            x.gate(0, inches[i]);
            due(inches[i] + " inches", x.fits(0), elbows[i]);
            due(inches[i] + " inches, another one", x.fits(1), 1023);
        }
        ElbowRanks x = Checks.told("b1;e3;p3 0;p0 0;");
        due("nothing measured", x.fits(0), 1023);
        x.gate(0, 10);
        due("by 3 inches", x.fits(0), 8 | 16 | 32 | 64);
        x.gate(0, 12);
        due("twice measured", x.fits(0), 16 | 32 | 64);
        x.gate(1, 1);
        due("another one measured", x.fits(0), 16 | 32 | 64);
        due("of another one", x.fits(1), 1 | 2);
        x.patents(0, 9);
        due("whatever his elbow is now", x.fits(0), 16 | 32 | 64);
        ElbowRanks y = Checks.told("e0;p3 0;");
        y.gate(0, 11);
        due("without error", y.fits(0), 0);
        due("person 1", y.fits(1), BAD);
        due("person -1", y.fits(-1), BAD);
        due("low", y.fits(LOW), BAD);
    }

    private static void marks() {
        Checks.part("25 mark");
        // PERSON 1 is 10 WIDE, by two LANES of 24 and 9 inches; he gave way once.
        ElbowRanks x = Checks.told("n4;l0 1 23;l1 2 9;l2 3 30;p5 0;p3 1;p2 0;");
        x.meets(1, 0, 0);
        x.shuts(2, 1);
        int[] marks = {10, 12, 9, 24, 10, 11};
        for (int kind = 0; kind < marks.length; kind++) {
            due("of kind " + kind, x.mark(kind, 1), marks[kind]);
        }
        int[] others = {8, 11, 6, 22, 6, 9};
        for (int kind = 0; kind < others.length; kind++) {
            due("of kind " + kind + ", another one", x.mark(kind, 2), others[kind]);
        }
        long trace = x.trace();
        due("kind 6", x.mark(6, 0), NO);
        due("kind -1", x.mark(-1, 0), NO);
        due("person 3", x.mark(0, 3), NO);
        due("person -1", x.mark(5, -1), NO);
        due("low", x.mark(LOW, LOW), NO);
        due("high", x.mark(HIGH, HIGH), NO);
        due("those ask none", x.trace(), trace);
        due("below 0", Checks.told("b1;p0 0;p0 0;p0 0;p0 0;").mark(2, 3), -2);
    }

    private static void images() {
        Checks.part("26 keep, 27 back");
        ElbowRanks x = Checks.told("l0 1 23;l0 1 40;p5 0;p3 1;p1 1;");
        due("none kept", x.back(0), STATE);
        x.shuts(1, 1);
        due("keep", x.keep(0), 1);
        due("the other one is not kept", x.back(1), STATE);
        x.meets(0, 1, 0);
        x.shuts(1, 0);
        x.claims(1, 2);
        due("keep another", x.keep(1), 0);
        x.gate(0, 14);
        x.mark(0, 0);
        Checks.type(x, "n");
        due("back", x.back(0), 1);
        due("where", x.person(0, 1), 0);
        due("gave way", x.now(1), 0);
        due("elbow", x.person(2, 0), 1);
        due("closed", x.now(0), 2);
        due("may be undone", x.count(6), 1);
        due("measured as before", x.count(5), 1);
        due("text as before", x.count(7), 1);
        due("trace as before", x.trace(), 1);
        due("undone", x.undo(), 0);
        due("open", x.now(0), 0);
        due("the image stays", x.back(0), 1);
        due("undone again", x.undo(), 0);
        due("to the other", x.back(1), 0);
        backToTheLater(x);
        due("image 2", x.keep(2), BAD);
        due("image -1", x.keep(-1), BAD);
        due("back 2", x.back(2), BAD);
        due("back -1", x.back(-1), BAD);
        keepAnew();
    }

    private static void backToTheLater(ElbowRanks x) {
        due("where then", x.person(0, 1), 1);
        due("gave way then", x.person(1, 3), 1);
        due("elbow then", x.person(1, 0), 4);
        due("may be undone then", x.count(6), 4);
        due("a claim undone", x.undo(), 3);
        due("elbow of before", x.person(2, 0), 1);
        due("opening undone", x.undo(), 2);
        due("closed of before", x.now(0), 2);
        due("meeting undone", x.undo(), 1);
        due("gave way before", x.person(1, 3), 0);
        due("back is none of what is undone", x.undo(), 0);
        due("no more", x.undo(), STATE);
    }

    private static void keepAnew() {
        ElbowRanks x = Checks.told("l0 1 40;p5 0;");
        x.keep(0);
        for (int i = 0; i < 12; i++) {
            x.patents(0, i % 2);
        }
        due("kept again", x.keep(0), 0);
        x.goes(0, 0);
        due("keeping is not undone", x.undo(), 9);
        x.goes(0, 0);
        x.shuts(0, 1);
        due("back", x.back(0), 0);
        due("as it was kept again", x.person(0, 0), 1);
        for (int left = 9; left >= 0; left--) {
            due("left", x.undo(), left);
            due("elbow, " + left + " left", x.person(0, 0), (left + 1) % 2);
        }
        due("no more", x.undo(), STATE);
    }

    private static void counting() {
        Checks.part("28 count");
        ElbowRanks x = Checks.told(RING);
        x.gate(0, 9);
        x.goes(0, 0);
        x.goes(0, 0);
        Checks.type(x, "b7;");
        int[] counts = {5, 6, 4, 3, 1, 1, 2, 3};
        for (int what = 0; what < counts.length; what++) {
            due("" + what, x.count(what), counts[what]);
        }
        due("8", x.count(8), BAD);
        due("-1", x.count(-1), BAD);
        due("low", x.count(LOW), BAD);
        due("high", x.count(HIGH), BAD);
    }

    private static void traces() {
        Checks.part("29 trace");
        long[] asked = {1, 11, 101, 1011, 10101, 100001};
        ElbowRanks x = Checks.told(RING);
        long all = 0;
        for (int round = 0; round < 2; round++) {
            for (int kind = 0; kind < asked.length; kind++) {
                x.mark(kind, round);
                all += asked[kind];
                due("after kind " + kind, x.trace(), all);
            }
        }
        x.keep(0);
        x.mark(0, 0);
        x.back(0);
        x.undo();
        x.forget();
        x.clear();
        x.capital();
        due("it stays", x.trace(), all + 1);
        due("of another object", new ElbowRanks().trace(), 0);
    }
}
