/** Promises 14 to 17: ways, what they lack, what one must, odds. */
final class WayBoundaries extends Boundary {
    /** All PLACES in a row, by LANES of 4 inches. */
    private static final String ROW = "n8;l0 1 4;l1 2 4;l2 3 4;l3 4 4;l4 5 4;l5 6 4;l6 7 4;";
    private static final String SIDE_BY_SIDE = times(8, "l0 1 4;");

    private WayBoundaries() {
    }

    static void all() {
        wayHowMany();
        wayTheIth();
        wayNotSoMany();
        wayNone();
        wayNoWider();
        wayFewest();
        wayTheFirst();
        wayAsNow();
        wayBad();
        lacksNothing();
        lacksInches();
        lacksAddedUp();
        lacksWhateverTheirWidth();
        lacksNone();
        lacksBad();
        mustWhereHeIs();
        mustNotAtAll();
        mustEach();
        mustBad();
        oddsOfTenths();
        oddsWhereHeIs();
        oddsNotAtAll();
        oddsOfOpenLanes();
        oddsLeastTerms();
        oddsOfMost();
        oddsBad();
        nothingIsChanged();
    }

    // ---- way

    private static void wayHowMany() {
        sentence(14, "WAY: how many (i = -1)");
        ElbowRanks x = Checks.told(ROW + "p0 0;p0 7;");
        for (int to = 0; to < 8; to++) {
            due("from 0 to " + to, x.way(0, to, -1), to);
            due("from 7 to " + to, x.way(1, to, -1), 7 - to);
        }
    }

    private static void wayTheIth() {
        sentence(14, "the i-th LANE");
        ElbowRanks x = Checks.told(ROW + "p0 0;p0 7;");
        for (int i = 0; i < 7; i++) {
            due("from 0, " + i, x.way(0, 7, i), i);
            due("from 7, " + i, x.way(1, 0, i), 6 - i);
        }
    }

    private static void wayNotSoMany() {
        sentence(14, "NONE: not so many");
        ElbowRanks x = Checks.told(ROW + "p0 0;");
        for (int to = 0; to < 8; to++) {
            due("one too many to " + to, x.way(0, to, to), NONE);
        }
        due("the eighth of seven", x.way(0, 7, 7), NONE);
        due("the ninth", x.way(0, 7, 8), NONE);
        due("far more", x.way(0, 7, HIGH), NONE);
        due("where he is, the first", x.way(0, 0, 0), NONE);
        due("where he is, far more", x.way(0, 0, HIGH), NONE);
    }

    private static void wayNone() {
        sentence(14, "how many; the i-th, of several ways the first ... NONE");
        ElbowRanks x = Checks.told("n3;l0 1 4;p0 0;");
        due("how many", x.way(0, 2, -1), NONE);
        due("the first", x.way(0, 2, 0), NONE);
        due("far more", x.way(0, 2, HIGH), NONE);
        due("without lanes", Checks.told("p0 0;").way(0, 1, -1), NONE);
        due("without lanes, where he is", Checks.told("p0 0;").way(0, 0, -1), 0);
    }

    private static void wayNoWider() {
        sentence(14, "if he is no WIDER than its WIDTH");
        due("as wide as it", Checks.told("l0 1 14;p5 0;").way(0, 1, -1), 1);
        due("an inch wider", Checks.told("l0 1 13;p5 0;").way(0, 1, -1), NONE);
        due("the lane of one an inch wider", Checks.told("l0 1 13;p5 0;").way(0, 1, 0), NONE);
        due("he goes round what is too narrow", Checks.told("n3;l0 2 13;l0 1 14;l1 2 14;p5 0;").way(0, 2, -1), 2);
    }

    private static void wayFewest() {
        sentence(14, "the fewest LANES");
        ElbowRanks x = Checks.told("n4;l0 1 9;l1 2 9;l2 3 9;l0 3 9;p0 0;");
        due("how many", x.way(0, 3, -1), 1);
        due("which", x.way(0, 3, 0), 3);
        due("of two as long, how many", x.way(0, 2, -1), 2);
    }

    private static void wayTheFirst() {
        sentence(14, "of several ways the first (LANE by LANE)");
        ElbowRanks x = Checks.told(SIDE_BY_SIDE + "p0 0;p0 1;");
        due("of lanes side by side", x.way(0, 1, 0), 0);
        due("of lanes side by side, back", x.way(1, 0, 0), 0);
        // By LANES 1, 2 or by 3, 0: the first LANE of the way counts first.
        ElbowRanks y = Checks.told("n4;l2 3 9;l0 1 9;l1 3 9;l0 2 9;p0 0;");
        due("the first of two ways", y.way(0, 3, 0), 1);
        due("and on", y.way(0, 3, 1), 2);
        ElbowRanks z = Checks.told("n3;l1 2 9;l1 2 9;l0 1 9;l0 1 9;p0 0;");
        due("of two and two", z.way(0, 2, 0), 2);
        due("of two and two, on", z.way(0, 2, 1), 0);
        // By 0 or 2, then by 1 or 3.
        ElbowRanks w = Checks.told("n3;l1 0 9;l2 1 9;l0 1 9;l1 2 9;p0 0;");
        due("alike at first", w.way(0, 2, 0), 0);
        due("then the lower", w.way(0, 2, 1), 1);
    }

    private static void wayAsNow() {
        sentence(14, "LANES, ELBOWS as they are NOW");
        ElbowRanks x = Checks.told("n3;l0 2 14;l0 1 16;l1 2 16;p5 0;");
        due("as told", x.way(0, 2, -1), 1);
        x.patents(0, 6);
        due("an inch more of elbow", x.way(0, 2, -1), 2);
        due("the first lane", x.way(0, 2, 0), 1);
        x.patents(0, 7);
        due("another inch", x.way(0, 2, -1), NONE);
        x.patents(0, 0);
        x.shuts(0, 1);
        due("closed", x.way(0, 2, -1), 2);
        x.shuts(2, 1);
        due("both closed", x.way(0, 2, -1), NONE);
        x.goes(0, 1);
        due("where he is now", x.way(0, 1, -1), 0);
    }

    private static void wayBad() {
        sentence(14, "BAD (i below -1).");
        ElbowRanks x = Checks.told("n3;l0 1 4;p0 0;");
        due("i -2", x.way(0, 1, -2), BAD);
        due("i low", x.way(0, 1, LOW), BAD);
        due("i -2, where he is", x.way(0, 0, -2), BAD);
        due("i -2, no way", x.way(0, 2, -2), BAD);
        due("i -1", x.way(0, 1, -1), 1);
        range("person", 0, 3, (y, p) -> y.way(p, 1, -1));
        range("place", 0, 2, (y, to) -> y.way(0, to, -1));
        due("place 7 of 8", Checks.told("n8;p0 0;").way(0, 7, -1), NONE);
        due("place 8 of 8", Checks.told("n8;p0 0;").way(0, 8, -1), BAD);
    }

    // ---- lacks

    private static void lacksNothing() {
        sentence(15, "the fewest inches by which he is WIDER than they are");
        due("as wide as it", Checks.told("l0 1 14;p5 0;").lacks(0, 1), 0);
        due("where he is", Checks.told("l0 1 1;p9 0;").lacks(0, 0), 0);
        due("where he is, without lanes", Checks.told("p9 1;").lacks(0, 1), 0);
        // What one LANE has more is none of another's.
        due("a wide one and a narrow one", Checks.told("n3;l0 1 40;l1 2 13;p5 0;").lacks(0, 2), 1);
    }

    private static void lacksInches() {
        sentence(15, "how many");
        due("an inch", Checks.told("l0 1 13;p5 0;").lacks(0, 1), 1);
        due("the most of one", Checks.told("b9;l0 1 1;p9 0;").lacks(0, 1), 26);
        due("the least of two", Checks.told("l0 1 11;l0 1 12;p5 0;").lacks(0, 1), 2);
    }

    private static void lacksAddedUp() {
        sentence(15, "of all ways ... the fewest inches ... added up");
        String narrow = "n8;b9;l0 1 1;l1 2 1;l2 3 1;l3 4 1;l4 5 1;l5 6 1;l6 7 1;p9 0;";
        due("the most of all", Checks.told(narrow).lacks(0, 7), 7 * 26);
        // Two LANES that lack 2 and 3 inches, or one that lacks 5, 6, 4.
        due("as few", Checks.told("n3;l0 1 12;l1 2 11;l0 2 9;p5 0;").lacks(0, 2), 5);
        due("fewer by more lanes", Checks.told("n3;l0 1 12;l1 2 11;l0 2 8;p5 0;").lacks(0, 2), 5);
        due("fewer by one", Checks.told("n3;l0 1 12;l1 2 11;l0 2 10;p5 0;").lacks(0, 2), 4);
        due("the whole row", Checks.told(ROW + "p1 7;").lacks(0, 0), 14);
        // All seven others wide enough, one straight that lacks an inch.
        String round = "n8;l0 1 9;l1 2 9;l2 3 9;l3 4 9;l4 5 9;l5 6 9;l6 7 9;l7 0 5;p1 0;";
        due("all round", Checks.told(round).lacks(0, 7), 0);
    }

    private static void lacksWhateverTheirWidth() {
        sentence(15, "by LANES that are open (whatever their WIDTH)");
        ElbowRanks x = Checks.told("n3;l0 1 1;l0 1 2;l1 2 40;p9 0;");
        due("by the wider", x.lacks(0, 1), 20);
        x.shuts(1, 1);
        due("by the other", x.lacks(0, 1), 21);
        x.patents(0, 0);
        due("as the elbow is now", x.lacks(0, 1), 3);
        x.shuts(2, 1);
        due("a closed wide one is no way", x.lacks(0, 2), NONE);
    }

    private static void lacksNone() {
        sentence(15, "LACKS; NONE.");
        ElbowRanks x = Checks.told("n3;l0 1 40;p0 0;");
        due("no lane there", x.lacks(0, 2), NONE);
        due("a lane there", x.lacks(0, 1), 0);
        x.shuts(0, 1);
        due("a closed one", x.lacks(0, 1), NONE);
        due("where he is", x.lacks(0, 0), 0);
    }

    private static void lacksBad() {
        sentence(15, "LACKS ... BAD.");
        range("person", 0, 3, (x, p) -> x.lacks(p, 1));
        range("place", 0, 2, (x, to) -> x.lacks(0, to));
        due("place 8 of 8", Checks.told("n8;p0 0;").lacks(0, 8), BAD);
        due("place 7 of 8", Checks.told("n8;p0 7;").lacks(0, 7), 0);
    }

    // ---- must

    private static void mustWhereHeIs() {
        sentence(16, "LANES (bits) each of which he can't do without", "where he is");
        due("with a lane", Checks.told("l0 1 9;p0 0;").must(0, 0), 0);
        due("without", Checks.told("p0 1;").must(0, 1), 0);
    }

    private static void mustNotAtAll() {
        sentence(16, "0, if he can't GO there at all");
        due("no lane", Checks.told("n3;l0 1 9;p0 0;").must(0, 2), 0);
        due("an inch wider", Checks.told("l0 1 13;p5 0;").must(0, 1), 0);
        due("as wide as it", Checks.told("l0 1 14;p5 0;").must(0, 1), 1);
        due("the second too narrow", Checks.told("n3;l0 1 14;l1 2 13;p5 0;").must(0, 2), 0);
        ElbowRanks x = Checks.told("n3;l0 1 14;l1 2 14;p5 0;");
        x.shuts(1, 1);
        due("the second closed", x.must(0, 2), 0);
        due("as far as the first", x.must(0, 1), 1);
    }

    private static void mustEach() {
        sentence(16, "each of which he can't do without");
        due("all of a row", Checks.told(ROW + "p0 0;").must(0, 7), 127);
        due("all of a row back", Checks.told(ROW + "p0 7;").must(0, 0), 127);
        due("all but those behind", Checks.told(ROW + "p0 3;").must(0, 6), 8 + 16 + 32);
        due("none of a ring", Checks.told(ROW + "l7 0 4;p0 0;").must(0, 4), 0);
        due("a ring with a lane too narrow", Checks.told(ROW + "l7 0 3;p0 0;").must(0, 4), 1 + 2 + 4 + 8);
        due("none of eight side by side", Checks.told(SIDE_BY_SIDE + "p0 0;").must(0, 1), 0);
        due("the eighth", Checks.told("n3;" + times(7, "l0 1 4;") + "l1 2 4;p0 0;").must(0, 2), 128);
        // The second LANE is as short a way, but too narrow; the third leads elsewhere.
        due("one alone", Checks.told("n3;l0 1 4;l0 1 3;l0 2 9;p0 0;").must(0, 1), 1);
    }

    private static void mustBad() {
        sentence(16, "MUST, as bits. BAD.");
        range("person", 0, 3, (x, p) -> x.must(p, 1));
        range("place", 0, 2, (x, to) -> x.must(0, to));
        due("place 8 of 8", Checks.told("n8;p0 0;").must(0, 8), BAD);
        due("place 7 of 8", Checks.told("n8;p0 7;").must(0, 7), 0);
    }

    // ---- odds

    private static void oddsAre(String what, ElbowRanks x, int to, int tenths, int upper, int lower) {
        due(what + ", upper", x.odds(0, to, tenths, 0), upper);
        due(what + ", lower", x.odds(0, to, tenths, 1), lower);
    }

    private static void oddsOfTenths() {
        sentence(17, "by x (0 .. 10): each LANE that is open is shut by x in 10");
        ElbowRanks x = Checks.told("l0 1 4;p0 0;");
        int[] upper = {1, 9, 4, 7, 3, 1, 2, 3, 1, 1, 0};
        int[] lower = {1, 10, 5, 10, 5, 2, 5, 10, 5, 10, 1};
        for (int tenths = 0; tenths <= 10; tenths++) {
            oddsAre("by " + tenths, x, 1, tenths, upper[tenths], lower[tenths]);
        }
        range("x", 0, 10, (y, tenths) -> y.odds(0, 1, tenths, 1));
    }

    private static void oddsWhereHeIs() {
        sentence(17, "that he can GO there then", "where he is");
        for (int tenths = 0; tenths <= 10; tenths++) {
            oddsAre("where he is by " + tenths, Checks.told("l0 1 4;p0 0;"), 0, tenths, 1, 1);
            oddsAre("without lanes by " + tenths, Checks.told("p0 1;"), 1, tenths, 1, 1);
        }
    }

    private static void oddsNotAtAll() {
        sentence(17, "upper (what = 0), lower number (1), in least terms", "of nothing");
        oddsAre("no lane, none shut", Checks.told("n3;l0 1 4;p0 0;"), 2, 0, 0, 1);
        oddsAre("no lane", Checks.told("n3;l0 1 4;p0 0;"), 2, 5, 0, 1);
        oddsAre("an inch wider", Checks.told("l0 1 13;p5 0;"), 1, 0, 0, 1);
        oddsAre("as wide as it", Checks.told("l0 1 14;p5 0;"), 1, 0, 1, 1);
        oddsAre("all shut", Checks.told(SIDE_BY_SIDE + "p0 0;"), 1, 10, 0, 1);
        oddsAre("without lanes", Checks.told("p0 0;"), 1, 3, 0, 1);
    }

    private static void oddsOfOpenLanes() {
        sentence(17, "each LANE that is open is shut ... for itself");
        ElbowRanks x = Checks.told("l0 1 4;l0 1 4;l0 1 3;p0 0;");
        oddsAre("two that are wide enough", x, 1, 5, 3, 4);
        x.shuts(0, 1);
        oddsAre("one is closed", x, 1, 5, 1, 2);
        x.shuts(1, 1);
        oddsAre("both are closed", x, 1, 5, 0, 1);
        oddsAre("both are closed, none shut then", x, 1, 0, 0, 1);
    }

    private static void oddsLeastTerms() {
        sentence(17, "in least terms");
        oddsAre("255 of 256", Checks.told(SIDE_BY_SIDE + "p0 0;"), 1, 5, 255, 256);
        // 1 less (2/5) to the eighth; (3/5) to the seventh; (4/5) to the second.
        oddsAre("of fifths", Checks.told(SIDE_BY_SIDE + "p0 0;"), 1, 4, 390625 - 256, 390625);
        oddsAre("of fifths in a row", Checks.told(ROW + "p0 0;"), 7, 4, 2187, 78125);
        oddsAre("two in a row", Checks.told(ROW + "p0 0;"), 2, 2, 16, 25);
        // 1 less (1/5) to the second: not 96 of 100.
        oddsAre("two side by side", Checks.told("l0 1 4;l0 1 4;p0 0;"), 1, 2, 24, 25);
    }

    private static void oddsOfMost() {
        sentence(17, "a fraction", "of eight LANES");
        ElbowRanks beside = Checks.told(SIDE_BY_SIDE + "p0 0;");
        oddsAre("all but one in a hundred million", beside, 1, 1, 99999999, 100000000);
        // 9 to the eighth is 43046721.
        oddsAre("by 9", beside, 1, 9, 56953279, 100000000);
        oddsAre("by 0", beside, 1, 0, 1, 1);
        oddsAre("one in ten million", Checks.told(ROW + "p0 0;"), 7, 9, 1, 10000000);
        // 9 to the seventh is 4782969.
        oddsAre("a row by 1", Checks.told(ROW + "p0 0;"), 7, 1, 4782969, 10000000);
    }

    private static void oddsBad() {
        sentence(17, "ODDS: upper (what = 0), lower number (1) ... BAD.");
        range("person", 0, 3, (x, p) -> x.odds(p, 1, 5, 0));
        range("place", 0, 2, (x, to) -> x.odds(0, to, 5, 0));
        range("what", 0, 1, (x, what) -> x.odds(0, 1, 5, what));
        due("place 8 of 8", Checks.told("n8;p0 0;").odds(0, 8, 5, 0), BAD);
        due("what 2, where he is", Checks.told("p0 0;").odds(0, 0, 5, 2), BAD);
        due("x 11, where he is", Checks.told("p0 0;").odds(0, 0, 11, 0), BAD);
    }

    private static void nothingIsChanged() {
        sentence(14, "Nothing is changed");
        stays("way", 1, x -> x.way(0, 1, -1));
        stays("the first of a way", 0, x -> x.way(0, 1, 0));
        sentence(15, "Nothing is changed");
        stays("lacks", 0, x -> x.lacks(0, 2));
        sentence(16, "Nothing is changed");
        stays("must", 3, x -> x.must(0, 2));
        sentence(17, "Nothing is changed");
        stays("odds", 4, x -> x.odds(0, 2, 5, 1));
    }
}
