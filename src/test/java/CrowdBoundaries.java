/** Promises 18 to 21: meetings, theatres, whom to make narrow, who is ahead. */
final class CrowdBoundaries extends Boundary {
    private CrowdBoundaries() {
    }

    static void all() {
        meetingOfBoth();
        meetingOfTheGreater();
        meetingOfNone();
        meetingOfOneWider();
        meetingInAClosedLane();
        meetingWhereverTheyAre();
        meetingBad();
        theatreOfOneRow();
        theatreNoWider();
        theatreNone();
        theatreOfNobody();
        theatreFewest();
        theatreTheFirst();
        theatreOfWidest();
        theatreAsNow();
        theatreBad();
        narrowNobody();
        narrowFewest();
        narrowTheLeast();
        narrowNone();
        narrowOpenOrNot();
        narrowBad();
        orderGreatestFirst();
        orderLikeOnes();
        orderBad();
        nothingIsChanged();
    }

    // ---- meeting

    private static void meetingOfBoth() {
        sentence(18, "0 both pass");
        due("together as wide as it", Checks.told("l0 1 26;p5 0;p4 0;").meeting(0, 1, 0), 0);
        due("together an inch wider", Checks.told("l0 1 25;p5 0;p4 0;").meeting(0, 1, 0), 1);
        due("alike ones, as wide as it", Checks.told("l0 1 28;p5 0;p5 0;").meeting(0, 1, 0), 0);
        due("the least of all", Checks.told("b1;l0 1 2;p0 0;p0 0;").meeting(0, 1, 0), 0);
    }

    private static void meetingOfTheGreater() {
        sentence(18, "1 the first one alone, 2 the second one alone");
        due("an inch greater, the first", Checks.told("l0 1 12;p4 0;p3 0;").meeting(0, 1, 0), 1);
        due("an inch greater, the second", Checks.told("l0 1 12;p3 0;p4 0;").meeting(0, 1, 0), 2);
        due("told the other way round", Checks.told("l0 1 12;p3 0;p4 0;").meeting(1, 0, 0), 1);
    }

    private static void meetingOfNone() {
        sentence(18, "3 none (it would be CLOSED)");
        ElbowRanks x = Checks.told("l0 1 27;p5 0;p5 1;");
        due("alike ones, together an inch wider", x.meeting(0, 1, 0), 3);
        due("it is not closed", x.now(0), 0);
        due("again", x.meeting(1, 0, 0), 3);
        due("each as wide as it", Checks.told("l0 1 14;p5 0;p5 1;").meeting(0, 1, 0), 3);
        due("alike ones of 0", Checks.told("l0 1 7;p0 0;p0 1;").meeting(0, 1, 0), 3);
        due("alike ones of 9", Checks.told("l0 1 40;p9 0;p9 1;").meeting(0, 1, 0), 3);
    }

    private static void meetingOfOneWider() {
        sentence(18, "4 one is WIDER than it");
        due("the first, an inch", Checks.told("l0 1 13;p5 0;p4 0;").meeting(0, 1, 0), 4);
        due("the second, an inch", Checks.told("l0 1 13;p5 0;p4 0;").meeting(1, 0, 0), 4);
        due("both", Checks.told("l0 1 13;p5 0;p5 0;").meeting(0, 1, 0), 4);
        due("none", Checks.told("l0 1 14;p5 0;p4 0;").meeting(0, 1, 0), 1);
    }

    private static void meetingInAClosedLane() {
        sentence(18, "5 it is CLOSED (whoever is WIDER)");
        String[] texts = {"l0 1 13;p5 0;p4 0;", "l0 1 13;p4 0;p5 0;", "l0 1 13;p5 0;p5 0;", "l0 1 14;p5 0;p4 0;",
            "l0 1 27;p5 0;p5 0;", "l0 1 40;p0 0;p1 0;"};
        for (String text : texts) {
            ElbowRanks x = Checks.told(text);
            x.shuts(0, 1);
            due("of " + text, x.meeting(0, 1, 0), 5);
        }
    }

    private static void meetingWhereverTheyAre() {
        sentence(18, "wherever they are");
        String[] places = {"p5 0;p4 0;", "p5 0;p4 1;", "p5 1;p4 0;", "p5 2;p4 7;", "p5 0;p4 2;"};
        for (String people : places) {
            ElbowRanks x = Checks.told("n8;l0 1 26;l0 1 25;" + people);
            due("both of " + people, x.meeting(0, 1, 0), 0);
            due("one of " + people, x.meeting(0, 1, 1), 1);
        }
    }

    private static void meetingBad() {
        sentence(18, "BAD (alike ones, too).");
        range("first", 0, 2, (x, p) -> x.meeting(p, 3, 1));
        range("second", 1, 3, (x, q) -> x.meeting(0, q, 1));
        range("lane", 0, 2, (x, l) -> x.meeting(0, 1, l));
        for (int p = 0; p < 4; p++) {
            int alike = p;
            stays("alike ones, " + p, BAD, x -> x.meeting(alike, alike, 1));
            stays("alike ones in a closed lane, " + p, BAD, x -> x.meeting(alike, alike, 2));
        }
        stays("nobody in a closed lane", BAD, x -> x.meeting(0, 4, 2));
    }

    // ---- theatre

    private static void seats(String text, int w, int rows, int... row) {
        ElbowRanks x = Checks.told(text);
        due("rows of " + text + " by " + w, x.theatre(w, -1), rows);
        for (int p = 0; p < row.length; p++) {
            due("row of " + p + " of " + text + " by " + w, x.theatre(w, p), row[p]);
        }
    }

    private static void theatreOfOneRow() {
        sentence(19, "how many rows (p = -1), the row of a PERSON");
        seats("p5 0;", 14, 1, 0);
        seats("p5 0;", 99, 1, 0);
        seats("p5 0;p4 1;p3 0;", 36, 1, 0, 0, 0);
        seats("b1;p0 0;", 1, 1, 0);
    }

    private static void theatreNoWider() {
        sentence(19, "each row no WIDER than w together");
        // 14, 12 and 10 inches.
        String text = "p5 0;p4 1;p3 0;";
        seats(text, 35, 2, 0, 0, 1);
        seats(text, 26, 2, 0, 0, 1);
        seats(text, 25, 2, 0, 1, 0);
        seats(text, 24, 2, 0, 1, 0);
        seats(text, 23, 2, 0, 1, 1);
        seats(text, 22, 2, 0, 1, 1);
        seats(text, 21, 3, 0, 1, 2);
        seats(text, 14, 3, 0, 1, 2);
    }

    private static void theatreNone() {
        sentence(19, "NONE (one is WIDER)");
        seats("p5 0;p4 1;p3 0;", 13, NONE, NONE, NONE, NONE);
        seats("p3 0;p4 1;p5 0;", 13, NONE, NONE, NONE, NONE);
        seats("p3 0;p4 1;p5 0;", 1, NONE, NONE, NONE, NONE);
        seats("b9;p0 0;p9 0;", 26, NONE, NONE, NONE);
        seats("b9;p0 0;p9 0;", 27, 2, 0, 1);
        seats("b2;p0 0;", 1, NONE, NONE);
    }

    private static void theatreOfNobody() {
        sentence(19, "the fewest rows in which all PEOPLE sit", "nobody");
        seats("", 1, 0);
        seats("", 99, 0);
        due("person 0", Checks.told("").theatre(9, 0), BAD);
    }

    private static void theatreFewest() {
        sentence(19, "the fewest rows");
        // 3, 5, 7 and 5 inches: who sits down where there is room first needs a third row.
        seats("b1;p1 0;p2 0;p3 0;p2 0;", 10, 2, 0, 1, 0, 1);
        seats("b9;p9 0;p9 0;p9 0;p9 0;p9 0;", 27, 5, 0, 1, 2, 3, 4);
        seats("b9;p9 0;p9 0;p9 0;p9 0;p9 0;", 53, 5, 0, 1, 2, 3, 4);
        seats("b9;p9 0;p9 0;p9 0;p9 0;p9 0;", 54, 3, 0, 0, 1, 1, 2);
        seats("b9;p9 0;p9 0;p9 0;p9 0;p9 0;", 99, 2, 0, 0, 0, 1, 1);
        seats("b1;p0 0;p0 0;p0 0;p0 0;p0 0;", 1, 5, 0, 1, 2, 3, 4);
        seats("b1;p0 0;p0 0;p0 0;p0 0;p0 0;", 4, 2, 0, 0, 0, 0, 1);
        seats("b1;p0 0;p0 0;p0 0;p0 0;p0 0;", 5, 1, 0, 0, 0, 0, 0);
    }

    private static void theatreTheFirst() {
        sentence(19, "of several ways the first (row of PERSON 0, then 1, ..; a new row is the lowest number "
                + "that none had)");
        seats("p0 0;p0 0;p0 0;p0 0;", 8, 2, 0, 0, 1, 1);
        seats("p0 0;p0 0;p0 0;p0 0;", 15, 2, 0, 0, 0, 1);
        // 14, 4, 4 and 14 inches.
        seats("p5 0;p0 0;p0 0;p5 0;", 22, 2, 0, 0, 0, 1);
        seats("p5 0;p0 0;p0 0;p5 0;", 18, 2, 0, 0, 1, 1);
        seats("p5 0;p0 0;p0 0;p5 0;", 14, 3, 0, 1, 1, 2);
    }

    private static void theatreOfWidest() {
        sentence(19, "THEATRE for w (1 .. 99 inches a row)");
        range("w", 1, 99, (x, w) -> x.theatre(w, -1));
        range("w for one", 1, 99, (x, w) -> x.theatre(w, 0));
        due("w 0, nobody", Checks.told("").theatre(0, -1), BAD);
        due("w 100, nobody", Checks.told("").theatre(100, -1), BAD);
    }

    private static void theatreAsNow() {
        sentence(19, "ELBOWS as they are NOW");
        ElbowRanks x = Checks.told("p5 0;p4 1;");
        due("as told", x.theatre(26, -1), 1);
        x.patents(1, 5);
        due("an inch more of elbow", x.theatre(26, -1), 2);
        x.patents(1, 9);
        due("22 inches", x.theatre(21, -1), NONE);
    }

    private static void theatreBad() {
        sentence(19, "the row of a PERSON; NONE. BAD.");
        range("person", -1, 3, (x, p) -> x.theatre(30, p));
        ElbowRanks x = Checks.told("p5 0;");
        due("nobody, one is wider", x.theatre(13, 1), BAD);
        due("person -2, one is wider", x.theatre(13, -2), BAD);
    }

    // ---- narrow

    private static void narrows(String text, int... people) {
        ElbowRanks x = Checks.told(text);
        for (int l = 0; l < people.length; l++) {
            due("lane " + l + " of " + text, x.narrow(l), people[l]);
        }
    }

    private static void narrowNobody() {
        sentence(20, "so that all PEOPLE together are no WIDER than it", "as they are");
        narrows("l0 1 36;l0 1 40;p5 0;p4 1;p3 0;", 0, 0);
        narrows("l0 1 35;p5 0;p4 1;p3 0;", 1);
        narrows("l0 1 1;", 0);
        narrows("b1;l0 1 5;l0 1 4;p0 0;p0 0;p0 0;p0 0;p0 0;", 0, NONE);
    }

    private static void narrowFewest() {
        sentence(20, "the fewest PEOPLE ... to have ELBOW 0");
        // 10, 12 and 14 inches; without elbows 4 each: 30, 28, 26 by one, 22, 20, 18 by two, 12 by all.
        narrows("l0 1 36;l0 1 30;l0 1 29;l0 1 28;l0 1 27;l0 1 26;l0 1 25;l0 1 22;p3 0;p4 1;p5 0;",
                0, 1, 2, 2, 4, 4, 3, 3);
        narrows("l0 1 21;l0 1 20;l0 1 19;l0 1 18;l0 1 17;l0 1 12;l0 1 11;p3 0;p4 1;p5 0;",
                5, 5, 6, 6, 7, 7, NONE);
        narrows("b1;l0 1 5;l0 1 6;p9 0;p9 0;p9 0;p9 0;p9 0;", 31, 31);
        // Whose ELBOW is 0 already helps nothing.
        narrows("l0 1 12;l0 1 29;p0 0;p4 0;p5 0;", 6, 2);
    }

    private static void narrowTheLeast() {
        sentence(20, "of as few the least");
        narrows("l0 1 40;l0 1 32;l0 1 22;l0 1 12;p5 0;p5 0;p5 0;", 1, 1, 3, 7);
        narrows("b1;l0 1 31;l0 1 19;p1 0;p9 0;p9 0;", 2, 6);
    }

    private static void narrowNone() {
        sentence(20, "NARROW ... NONE.");
        narrows("l0 1 20;l0 1 19;p9 0;p9 0;p9 0;p9 0;p9 0;", 31, NONE);
        narrows("l0 1 20;l0 1 19;p0 0;p0 0;p0 0;p0 0;p0 0;", 0, NONE);
        narrows("b9;l0 1 9;l0 1 8;p0 0;", 0, NONE);
        narrows("b9;l0 1 40;p0 0;p0 0;p0 0;p0 0;p0 0;", NONE);
    }

    private static void narrowOpenOrNot() {
        sentence(20, "NARROW for a LANE (open or not)");
        ElbowRanks x = Checks.told("l0 1 36;l0 1 28;l0 1 11;p3 0;p4 1;p5 0;");
        for (int l = 0; l < 3; l++) {
            x.shuts(l, 1);
        }
        due("all of them", x.narrow(0), 0);
        due("one", x.narrow(1), 2);
        due("none", x.narrow(2), NONE);
        x.patents(1, 0);
        due("as the elbows are now", x.narrow(1), 0);
    }

    private static void narrowBad() {
        sentence(20, "NARROW ... BAD.");
        range("lane", 0, 2, (x, l) -> x.narrow(l));
        due("no lanes", Checks.told("p0 0;").narrow(0), BAD);
        due("lane 8 of 8", Checks.told(times(8, "l0 1 1;")).narrow(8), BAD);
    }

    // ---- order

    private static void orders(String text, int... people) {
        ElbowRanks x = Checks.told(text);
        for (int i = 0; i < people.length; i++) {
            due(i + " of " + text, x.order(i), people[i]);
        }
        due("one too many of " + text, x.order(people.length), BAD);
    }

    private static void orderGreatestFirst() {
        sentence(21, "who is the i-th (0 the greatest)");
        orders("p0 0;p1 0;p2 0;p8 0;p9 0;", 4, 3, 2, 1, 0);
        orders("p9 0;p8 0;p2 0;p1 0;p0 0;", 0, 1, 2, 3, 4);
        orders("p5 0;", 0);
        ElbowRanks x = Checks.told("p5 0;p4 0;");
        x.patents(1, 6);
        due("as the elbows are now", x.order(0), 1);
    }

    private static void orderLikeOnes() {
        sentence(21, "of like ones the lower");
        orders("p0 0;p0 0;p0 0;p0 0;p0 0;", 0, 1, 2, 3, 4);
        orders("p9 0;p9 0;p9 0;p9 0;p9 0;", 0, 1, 2, 3, 4);
        orders("p1 0;p9 0;p1 0;p9 0;p1 0;", 1, 3, 0, 2, 4);
    }

    private static void orderBad() {
        sentence(21, "ORDER ... BAD.");
        range("i", 0, 3, (x, i) -> x.order(i));
        orders("");
    }

    private static void nothingIsChanged() {
        sentence(18, "Nothing is changed");
        stays("meeting, one alone", 1, x -> x.meeting(0, 1, 1));
        stays("meeting, none", 3, x -> x.meeting(0, 2, 1));
        stays("meeting, both", 0, x -> x.meeting(0, 3, 1));
        sentence(19, "Nothing is changed");
        stays("theatre", 2, x -> x.theatre(40, -1));
        sentence(20, "Nothing is changed");
        stays("narrow", 5, x -> x.narrow(1));
        sentence(21, "Nothing is changed");
        stays("order", 2, x -> x.order(1));
    }
}
