/** Promises 1, 4 to 6: what there is, at first and read anew, LANES and PEOPLE. */
final class CapitalBoundaries extends Boundary {
    private static final String EIGHT_LANES =
            "n8;l7 0 1;l0 7 40;l1 2 2;l2 1 39;l3 4 3;l4 5 4;l5 6 5;l6 7 6;";
    private static final String FIVE_PEOPLE = "n8;p0 7;p9 0;p1 6;p8 1;p5 5;";

    private CapitalBoundaries() {
    }

    static void all() {
        theConstants();
        aNewObject();
        atFirst();
        readAnew();
        readAnewAgain();
        theTraceStays();
        lanesThereAre();
        whatOfALane();
        placesAsTold();
        openAtFirst();
        peopleThereAre();
        whatOfAPerson();
        wide();
        gaveWay();
        reachWhereHeIs();
        reachByWidth();
        reachOfAll();
        reachByOpenLanes();
        nothingIsChanged();
    }

    private static void theConstants() {
        sentence(1, "BAD = -1, STATE = -2, FULL = -3, NONE = -9 ... NO = -1000000");
        due("BAD", ElbowRanks.BAD, -1);
        due("STATE", ElbowRanks.STATE, -2);
        due("FULL", ElbowRanks.FULL, -3);
        due("NONE", ElbowRanks.NONE, -9);
        due("NO", ElbowRanks.NO, -1000000);
    }

    private static void aNewObject() {
        sentence(1, "As told; 2 PLACES, no LANES, nobody.");
        ElbowRanks x = new ElbowRanks();
        due("places", x.count(0), 2);
        due("lanes", x.count(1), 0);
        due("people", x.count(2), 0);
        due("lane 0", x.lane(0, 0), BAD);
        due("person 0", x.person(0, 0), BAD);
        due("the first of nobody", x.order(0), BAD);
        due("in no lane", x.narrow(0), BAD);
        due("nobody goes", x.goes(0, 0), BAD);
        due("no lane is shut", x.shuts(0, 1), BAD);
    }

    private static void atFirst() {
        sentence(1, "BODY (1 .. 9 inches; 4 at first) ... ERROR (0 .. 3 inches; 1 at first) ... THE TRACE (0 at first");
        counts("at first", new ElbowRanks(), 2, 0, 0, 4, 1, 0, 0, 0);
        ElbowRanks x = new ElbowRanks();
        due("trace", x.trace(), 0);
        for (int what = 0; what < 4; what++) {
            due("now " + what, x.now(what), 0);
        }
        due("nothing to be undone", x.undo(), STATE);
        due("no image 0", x.back(0), STATE);
        due("no image 1", x.back(1), STATE);
        due("nothing measured", x.forget(), 0);
        due("no text", x.clear(), 0);
        changesNothing("an empty text", ElbowRanks::new, y -> y.capital());
    }

    private static void readAnew() {
        sentence(4, "Read anew: as told (what is not told as at first), all open, nothing measured or to be "
                + "UNDONE, IMAGES are gone");
        String[] texts = {"", "n4;", "l0 1 40;p5 0;", "b9;", "e3;", "n3;l2 1 7;l0 1 8;p0 2;p9 1;b2;e0;"};
        for (String text : texts) {
            ElbowRanks x = busy();
            x.keep(1);
            x.clear();
            Checks.type(x, text);
            x.capital();
            ElbowRanks fresh = Checks.told(text);
            due("nothing to be undone behind " + text, x.undo(), STATE);
            due("image 0 behind " + text, x.back(0), STATE);
            due("image 1 behind " + text, x.back(1), STATE);
            due("closed behind " + text, x.now(0), 0);
            due("gave way behind " + text, x.now(1), 0);
            due("padded behind " + text, x.now(3), 0);
            due("measured behind " + text, x.count(5), 0);
            due("places behind " + text, x.count(0), fresh.count(0));
            due("lanes behind " + text, x.count(1), fresh.count(1));
            due("people behind " + text, x.count(2), fresh.count(2));
            due("body behind " + text, x.count(3), fresh.count(3));
            due("error behind " + text, x.count(4), fresh.count(4));
            due("elbows behind " + text, x.now(2), fresh.now(2));
        }
    }

    private static void readAnewAgain() {
        sentence(4, "what is not told as at first");
        ElbowRanks x = new ElbowRanks();
        for (int often = 0; often < 4; often++) {
            Checks.type(x, "n7;b9;e3;l5 6 9;p9 6;");
            due("told", x.capital(), 5);
            counts("told", x, 7, 1, 1, 9, 3, 0, 0, 0);
        }
        for (int often = 0; often < 3; often++) {
            due("nothing told", x.capital(), 0);
            counts("nothing told", x, 2, 0, 0, 4, 1, 0, 0, 0);
        }
        Checks.type(x, "n7;b9;e3;l5 6 9;p9 6;?");
        due("told in vain", x.capital(), -10 - 21);
        counts("told in vain", x, 2, 0, 0, 4, 1, 0, 0, 22);
        x.clear();
        Checks.type(x, "p0 1;");
        due("one told", x.capital(), 1);
        counts("one told", x, 2, 0, 1, 4, 1, 0, 0, 0);
        Checks.type(x, "l0 6 9;");
        due("a place of before", x.capital(), -10 - 3);
    }

    private static void theTraceStays() {
        sentence(4, "THE TRACE stays");
        ElbowRanks x = busy();
        due("ahead", x.trace(), 11);
        x.type(';');
        due("read", x.capital(), 1);
        due("behind", x.trace(), 11);
    }

    // ---- LANES

    private static void lanesThereAre() {
        sentence(5, "LANES 0 .. (8 of them at most) ... BAD ... there is no such thing");
        range("lane", 0, 2, (x, l) -> x.lane(l, 0));
        ElbowRanks x = Checks.told(EIGHT_LANES);
        due("the eighth", x.lane(7, 2), 6);
        due("a ninth", x.lane(8, 2), BAD);
        due("of none", Checks.told("n3;").lane(0, 3), BAD);
    }

    private static void whatOfALane() {
        sentence(5, "0, 1 its PLACES as told, 2 WIDTH, 3 whether it is CLOSED (1, 0). BAD.");
        range("what", 0, 3, (x, what) -> x.lane(0, what));
    }

    private static void placesAsTold() {
        sentence(5, "0, 1 its PLACES as told, 2 WIDTH");
        ElbowRanks x = Checks.told(EIGHT_LANES);
        due("the first told, 7", x.lane(0, 0), 7);
        due("the second told, 0", x.lane(0, 1), 0);
        due("the least width", x.lane(0, 2), 1);
        due("the first told, 0", x.lane(1, 0), 0);
        due("the second told, 7", x.lane(1, 1), 7);
        due("the greatest width", x.lane(1, 2), 40);
    }

    private static void openAtFirst() {
        sentence(5, "LANES are open at first, or CLOSED.");
        ElbowRanks x = Checks.told(EIGHT_LANES);
        for (int l = 0; l < 8; l++) {
            due("at first " + l, x.lane(l, 3), 0);
        }
        x.shuts(7, 1);
        x.shuts(0, 1);
        due("closed 7", x.lane(7, 3), 1);
        due("closed 0", x.lane(0, 3), 1);
        due("another", x.lane(6, 3), 0);
        x.shuts(7, 0);
        due("opened", x.lane(7, 3), 0);
    }

    // ---- PEOPLE

    private static void peopleThereAre() {
        sentence(6, "PEOPLE 0 .. (5 of them at most) ... BAD ... there is no such thing");
        range("person", 0, 3, (x, p) -> x.person(p, 0));
        ElbowRanks x = Checks.told(FIVE_PEOPLE);
        due("the fifth", x.person(4, 1), 5);
        due("a sixth", x.person(5, 1), BAD);
        due("of nobody", Checks.told("n3;l0 1 5;").person(0, 0), BAD);
    }

    private static void whatOfAPerson() {
        sentence(6, "0 ELBOW, 1 where he is, 2 how WIDE, 3 how often he GAVE WAY, 4 REACH (bits). BAD.");
        range("what", 0, 4, (x, what) -> x.person(0, what));
        ElbowRanks x = Checks.told(FIVE_PEOPLE);
        due("the least elbow", x.person(0, 0), 0);
        due("the greatest elbow", x.person(1, 0), 9);
        due("the last place", x.person(0, 1), 7);
        due("the first place", x.person(1, 1), 0);
    }

    private static void wide() {
        sentence(6, "one is WIDE by BODY and twice his ELBOW");
        due("the least", Checks.told("b1;p0 0;").person(0, 2), 1);
        due("the greatest", Checks.told("b9;p9 0;").person(0, 2), 27);
        due("by the body at first", Checks.told("p0 0;").person(0, 2), 4);
        due("by a body told behind him", Checks.told("p5 0;b2;").person(0, 2), 12);
        ElbowRanks x = Checks.told("b9;p9 0;");
        x.patents(0, 0);
        due("by the elbow that he has now", x.person(0, 2), 9);
    }

    private static void gaveWay() {
        sentence(6, "3 how often he GAVE WAY");
        ElbowRanks x = Checks.told("l0 1 17;p5 0;p4 1;p0 0;");
        due("never", x.person(1, 3), 0);
        for (int often = 1; often <= 20; often++) {
            // He who passed goes back; he who gave way stays.
            due("met", x.meets(0, 1, 0), 1);
            due("often", x.person(1, 3), often);
            due("back", x.goes(0, 0), 0);
        }
        due("who passed", x.person(0, 3), 0);
        due("who was not there", x.person(2, 3), 0);
    }

    private static void reachWhereHeIs() {
        sentence(6, "PLACES (bits) to which he can GO, by LANES one behind another (where he is, too)");
        due("no lane, place 0", Checks.told("p0 0;").person(0, 4), 1);
        due("no lane, place 7", Checks.told("n8;p0 7;").person(0, 4), 128);
        due("too narrow a lane", Checks.told("l0 1 1;p0 1;").person(0, 4), 2);
    }

    private static void reachByWidth() {
        sentence(6, "he is no WIDER than its WIDTH");
        due("as wide as it", Checks.told("l0 1 22;p9 0;").person(0, 4), 3);
        due("an inch wider", Checks.told("l0 1 21;p9 0;").person(0, 4), 1);
        due("the least of all", Checks.told("b1;l0 1 1;p0 1;").person(0, 4), 3);
        due("the widest of all", Checks.told("b9;l0 1 27;p9 1;").person(0, 4), 3);
    }

    private static void reachOfAll() {
        sentence(6, "4 REACH (bits)");
        String chain = "n8;l0 1 4;l1 2 4;l2 3 4;l3 4 4;l4 5 4;l5 6 4;l6 7 4;";
        due("all of 8 from the first", Checks.told(chain + "p0 0;").person(0, 4), 255);
        due("all of 8 from the last", Checks.told(chain + "p0 7;").person(0, 4), 255);
        String told = "n8;l6 7 4;l5 6 4;l4 5 4;l3 4 4;l2 3 4;l1 2 4;l0 1 4;l7 0 4;";
        due("told the other way round", Checks.told(told + "p0 0;").person(0, 4), 255);
        due("told the other way round, from 7", Checks.told(told + "p0 7;").person(0, 4), 255);
    }

    private static void reachByOpenLanes() {
        sentence(6, "by an open LANE from one end to the other");
        ElbowRanks x = Checks.told("n3;l1 0 9;l1 2 9;p0 0;p0 2;");
        due("from 0", x.person(0, 4), 7);
        x.shuts(1, 1);
        due("one is closed, from 0", x.person(0, 4), 3);
        due("one is closed, from 2", x.person(1, 4), 4);
        x.shuts(1, 0);
        due("opened", x.person(1, 4), 7);
    }

    private static void nothingIsChanged() {
        sentence(5, "Nothing is changed");
        stays("lane", 1, x -> x.lane(2, 3));
        sentence(6, "Nothing is changed");
        stays("person", 1, x -> x.person(1, 3));
        stays("reach", 7, x -> x.person(0, 4));
    }
}
