import java.util.function.Supplier;

/** Promises 7 to 13: what is done, and undone. */
final class DeedBoundaries extends Boundary {
    private DeedBoundaries() {
    }

    static void all() {
        goesNoWider();
        goesFromEndToEnd();
        goesNot();
        goesBad();
        meetsNoWider();
        meetsBothPass();
        meetsTheGreaterPasses();
        meetsGivesWay();
        meetsLikeElbows();
        meetsAtBothEnds();
        meetsNot();
        meetsBad();
        claimsBelow9();
        claimsAbove0();
        claimsGreater();
        claimsAtOnePlace();
        claimsNot();
        claimsBad();
        patentsAnElbow();
        patentsWhatWas();
        patentsSo();
        shutsAndOpens();
        shutsHowMany();
        shutsSo();
        undoNone();
        undoTen();
        undoHowManyMore();
        undoEach();
        undoLeaves();
        undoNoRefused();
        nowWhat();
        nowClosed();
        nowGaveWay();
        nowElbows();
        nowPadded();
        nowChangesNothing();
    }

    // ---- goes

    private static void goesNoWider() {
        sentence(7, "if he is no WIDER than its WIDTH");
        due("as wide as it", Checks.told("l0 1 14;p5 0;").goes(0, 0), 1);
        due("an inch wider", Checks.told("l0 1 13;p5 0;").goes(0, 0), STATE);
        due("an inch less", Checks.told("l0 1 15;p5 0;").goes(0, 0), 1);
        due("the least of all", Checks.told("b1;l0 1 1;p0 0;").goes(0, 0), 1);
        due("two inches in one", Checks.told("b2;l0 1 1;p0 0;").goes(0, 0), STATE);
        due("the widest of all", Checks.told("b9;l0 1 27;p9 0;").goes(0, 0), 1);
        due("the widest of all, an inch wider", Checks.told("b9;l0 1 26;p9 0;").goes(0, 0), STATE);
    }

    private static void goesFromEndToEnd() {
        sentence(7, "GONE: a PERSON by a LANE at whose end he is AT ... where he is then");
        ElbowRanks x = Checks.told("n8;l7 0 40;p0 0;p0 7;p0 3;");
        due("from its second place", x.goes(0, 0), 7);
        due("from its first place", x.goes(1, 0), 0);
        due("he is there", x.person(0, 1), 7);
        due("he too", x.person(1, 1), 0);
        due("and back", x.goes(0, 0), 0);
        due("from neither", x.goes(2, 0), STATE);
        due("he stays", x.person(2, 1), 3);
    }

    private static void goesNot() {
        sentence(7, "STATE: he is not at its end, it is CLOSED, too narrow ... nothing changes");
        stays("not at its end", STATE, x -> x.goes(1, 0));
        stays("closed", STATE, x -> x.goes(0, 2));
        ElbowRanks y = Checks.told("l0 1 14;p5 0;");
        y.shuts(0, 1);
        due("closed, but wide enough", y.goes(0, 0), STATE);
        ElbowRanks x = busy();
        due("opened, but too narrow", x.shuts(2, 0), 0);
        due("too narrow", x.goes(0, 2), STATE);
        due("he stays", x.person(0, 1), 0);
        due("nothing to be undone of it", x.count(6), 6);
        Supplier<ElbowRanks> opened = () -> after(Boundary::busy, z -> z.shuts(2, 0));
        changesNothing("too narrow", opened, z -> z.goes(0, 2));
    }

    private static void goesBad() {
        sentence(7, "the first of these: BAD ... or there is no such thing");
        range("person", 0, 3, (x, p) -> x.goes(p, 1));
        range("lane", 0, 2, (x, l) -> x.goes(0, l));
        stays("nobody by a closed lane", BAD, x -> x.goes(4, 2));
    }

    // ---- meets

    private static void meetsNoWider() {
        sentence(8, "both must be no WIDER than it");
        due("both as wide as it", Checks.told("l0 1 14;p5 0;p5 1;").meets(0, 1, 0), 3);
        due("the first as wide as it", Checks.told("l0 1 14;p5 0;p4 1;").meets(0, 1, 0), 1);
        due("the second as wide as it", Checks.told("l0 1 14;p4 0;p5 1;").meets(0, 1, 0), 2);
        due("the first an inch wider", Checks.told("l0 1 13;p5 0;p4 1;").meets(0, 1, 0), STATE);
        due("the second an inch wider", Checks.told("l0 1 13;p4 0;p5 1;").meets(0, 1, 0), STATE);
        due("both an inch wider", Checks.told("l0 1 13;p5 0;p5 1;").meets(0, 1, 0), STATE);
    }

    private static void meetsBothPass() {
        sentence(8, "if both together are no WIDER, both come to the other ends");
        ElbowRanks x = Checks.told("l0 1 26;p5 0;p4 1;");
        due("together as wide as it", x.meets(0, 1, 0), 0);
        due("the first", x.person(0, 1), 1);
        due("the second", x.person(1, 1), 0);
        due("none gave way", x.now(1), 0);
        due("it stays open", x.now(0), 0);
        due("together an inch wider", Checks.told("l0 1 25;p5 0;p4 1;").meets(0, 1, 0), 1);
        due("alike ones, as wide as it", Checks.told("l0 1 28;p5 0;p5 1;").meets(0, 1, 0), 0);
        due("alike ones, an inch wider", Checks.told("l0 1 27;p5 0;p5 1;").meets(0, 1, 0), 3);
        due("the least of all", Checks.told("b1;l0 1 2;p0 0;p0 1;").meets(0, 1, 0), 0);
        due("the widest of all", Checks.told("b9;l0 1 40;p9 0;p9 1;").meets(0, 1, 0), 3);
    }

    private static void meetsTheGreaterPasses() {
        sentence(8, "else who has the greater ELBOW does");
        due("an inch greater, the first", Checks.told("l0 1 12;p4 0;p3 1;").meets(0, 1, 0), 1);
        due("an inch greater, the second", Checks.told("l0 1 12;p3 0;p4 1;").meets(0, 1, 0), 2);
        due("0 and 9", Checks.told("l0 1 25;p0 0;p9 1;").meets(0, 1, 0), 2);
        due("9 and 0", Checks.told("l0 1 25;p9 0;p0 1;").meets(0, 1, 0), 1);
        due("told the other way round", Checks.told("l0 1 25;p9 0;p0 1;").meets(1, 0, 0), 2);
    }

    private static void meetsGivesWay() {
        sentence(8, "the other one GIVES WAY (stays; counted)");
        ElbowRanks x = Checks.told("l0 1 25;p0 0;p9 1;");
        due("the second passes", x.meets(0, 1, 0), 2);
        due("he is there", x.person(1, 1), 0);
        due("the first stays", x.person(0, 1), 0);
        due("counted", x.person(0, 3), 1);
        due("not of the other", x.person(1, 3), 0);
        due("it stays open", x.now(0), 0);
        due("back", x.goes(1, 0), 1);
        due("the first passes", x.meets(1, 0, 0), 1);
        due("the second stays", x.person(0, 1), 0);
        due("counted again", x.person(0, 3), 2);
    }

    private static void meetsLikeElbows() {
        sentence(8, "with like ELBOWS none does, the LANE is CLOSED");
        String[] texts = {"l0 1 7;p0 0;p0 1;", "l0 1 40;p9 0;p9 1;", "l0 1 14;p5 0;p5 1;"};
        for (String text : texts) {
            ElbowRanks x = Checks.told(text);
            due("none in " + text, x.meets(0, 1, 0), 3);
            due("closed in " + text, x.lane(0, 3), 1);
            due("the first stays in " + text, x.person(0, 1), 0);
            due("the second stays in " + text, x.person(1, 1), 1);
            due("none gave way in " + text, x.now(1), 0);
            due("closed then in " + text, x.meets(0, 1, 0), STATE);
        }
    }

    private static void meetsAtBothEnds() {
        sentence(8, "two PEOPLE, one at one end of an open LANE, one at the other");
        String text = "n3;l0 1 40;l1 2 40;p5 0;p3 0;p1 1;p0 2;";
        due("both at one end", Checks.told(text).meets(0, 1, 0), STATE);
        due("the second elsewhere", Checks.told(text).meets(0, 3, 0), STATE);
        due("the first elsewhere", Checks.told(text).meets(3, 0, 0), STATE);
        due("both elsewhere", Checks.told(text).meets(0, 1, 1), STATE);
        due("from its first place", Checks.told(text).meets(0, 2, 0), 0);
        due("from its second place", Checks.told(text).meets(2, 0, 0), 0);
        ElbowRanks x = Checks.told(text);
        x.shuts(0, 1);
        due("closed", x.meets(0, 2, 0), STATE);
    }

    private static void meetsNot() {
        sentence(8, "STATE: it is CLOSED, one is WIDER, they are not at its two ends ... nothing changes");
        stays("closed", STATE, x -> x.meets(0, 1, 2));
        stays("not at its two ends", STATE, x -> x.meets(1, 2, 1));
        Supplier<ElbowRanks> wide = () -> Checks.told("l0 1 13;p5 0;p4 1;");
        due("one is wider", wide.get().meets(0, 1, 0), STATE);
        changesNothing("one is wider", wide, x -> x.meets(0, 1, 0));
    }

    private static void meetsBad() {
        sentence(8, "BAD (alike ones, too); STATE", "the first of these");
        range("first", 0, 2, (x, p) -> x.meets(p, 3, 1));
        range("second", 1, 3, (x, q) -> x.meets(0, q, 1));
        range("lane", 0, 2, (x, l) -> x.meets(0, 1, l));
        for (int p = 0; p < 4; p++) {
            int alike = p;
            stays("alike ones, " + p, BAD, x -> x.meets(alike, alike, 0));
            stays("alike ones in a closed lane, " + p, BAD, x -> x.meets(alike, alike, 2));
        }
        stays("nobody in a closed lane", BAD, x -> x.meets(0, 4, 2));
    }

    // ---- claims

    private static void claimsBelow9() {
        sentence(9, "a greater ELBOW (below 9) ... STATE: ... it is 9");
        ElbowRanks x = Checks.told("p8 0;p2 0;");
        due("of 8", x.claims(0, 1), 9);
        due("the other's", x.person(1, 0), 1);
        due("of 9", x.claims(0, 1), STATE);
        due("still", x.person(0, 0), 9);
        due("the other's still", x.person(1, 0), 1);
        due("of 9 told", Checks.told("p9 0;p1 0;").claims(0, 1), STATE);
    }

    private static void claimsAbove0() {
        sentence(9, "takes an inch of another one ... (above 0) ... STATE: ... the other's is 0");
        ElbowRanks x = Checks.told("p5 0;p1 0;");
        due("of one inch", x.claims(0, 1), 6);
        due("none is left", x.person(1, 0), 0);
        due("of none", x.claims(0, 1), STATE);
        due("still", x.person(0, 0), 6);
        due("still none", x.person(1, 0), 0);
        due("the least", Checks.told("p1 0;p0 0;").claims(0, 1), STATE);
    }

    private static void claimsGreater() {
        sentence(9, "STATE: ... his is not greater");
        due("an inch greater", Checks.told("p5 0;p4 0;").claims(0, 1), 6);
        due("alike", Checks.told("p5 0;p5 0;").claims(0, 1), STATE);
        due("an inch less", Checks.told("p4 0;p5 0;").claims(0, 1), STATE);
        due("told the other way round", Checks.told("p4 0;p5 0;").claims(1, 0), 6);
        due("alike at 0", Checks.told("p0 0;p0 0;").claims(0, 1), STATE);
        due("alike at 9", Checks.told("p9 0;p9 0;").claims(0, 1), STATE);
    }

    private static void claimsAtOnePlace() {
        sentence(9, "another one AT the same PLACE ... STATE: not AT one PLACE");
        ElbowRanks x = Checks.told("l0 1 40;p5 0;p3 1;");
        due("at the two ends of a lane", x.claims(0, 1), STATE);
        x.goes(1, 0);
        due("at one place", x.claims(0, 1), 6);
        due("in the last place", Checks.told("n8;p5 7;p3 7;").claims(0, 1), 6);
    }

    private static void claimsNot() {
        sentence(9, "STATE ... nothing changes");
        stays("not at one place", STATE, x -> x.claims(0, 1));
        stays("not greater", STATE, x -> x.claims(1, 2));
        stays("the other's is 0", STATE, x -> x.claims(2, 3));
        Supplier<ElbowRanks> nine = () -> Checks.told("p9 0;p1 0;");
        due("it is 9", nine.get().claims(0, 1), STATE);
        changesNothing("it is 9", nine, x -> x.claims(0, 1));
    }

    private static void claimsBad() {
        sentence(9, "BAD (alike ones, too); STATE", "the first of these");
        range("second", 1, 3, (x, q) -> x.claims(0, q));
        range("first", 0, 2, (x, p) -> x.claims(p, 3));
        for (int p = 0; p < 4; p++) {
            int alike = p;
            stays("alike ones, " + p, BAD, x -> x.claims(alike, alike));
        }
        Supplier<ElbowRanks> nine = () -> Checks.told("p9 0;");
        due("alike ones of 9", nine.get().claims(0, 0), BAD);
        due("nobody of 9", nine.get().claims(0, 1), BAD);
    }

    // ---- patents

    private static void patentsAnElbow() {
        sentence(10, "an ELBOW is e (0 .. 9) ... BAD");
        range("e", 0, 9, (x, e) -> x.patents(1, e));
        range("person", 0, 3, (x, p) -> x.patents(p, 7));
        for (int e = 1; e <= 9; e++) {
            ElbowRanks x = Checks.told("p0 0;p0 0;");
            due("from 0 to " + e, x.patents(1, e), 0);
            due("it is " + e, x.person(1, 0), e);
            due("another's", x.person(0, 0), 0);
        }
    }

    private static void patentsWhatWas() {
        sentence(10, "PATENT: what the ELBOW was.");
        ElbowRanks x = Checks.told("p9 0;");
        due("the greatest", x.patents(0, 0), 9);
        due("the least", x.patents(0, 9), 0);
    }

    private static void patentsSo() {
        sentence(10, "STATE: it is so.");
        stays("it is 5", STATE, x -> x.patents(0, 5));
        stays("it is 0", STATE, x -> x.patents(3, 0));
        for (int e = 0; e <= 9; e++) {
            due("it is " + e, Checks.told("p" + e + " 0;").patents(0, e), STATE);
        }
    }

    // ---- shuts

    private static void shutsAndOpens() {
        sentence(11, "CLOSED (1), opened (0) ... BAD");
        range("is", 0, 1, (x, is) -> x.shuts(0, is));
        range("lane", 0, 2, (x, l) -> x.shuts(l, 1));
        stays("no lane, and 2", BAD, x -> x.shuts(3, 2));
    }

    private static void shutsHowMany() {
        sentence(11, "how many are CLOSED");
        ElbowRanks x = Checks.told(times(8, "l0 1 14;") + "p5 0;p5 1;");
        for (int l = 0; l < 8; l++) {
            due("closed " + l, x.shuts(l, 1), l + 1);
        }
        for (int l = 0; l < 8; l++) {
            due("opened " + l, x.shuts(l, 0), 7 - l);
        }
        due("closed by a meeting", x.meets(0, 1, 3), 3);
        due("one more", x.shuts(0, 1), 2);
        due("that one is opened", x.shuts(3, 0), 1);
    }

    private static void shutsSo() {
        sentence(11, "STATE: it is so.");
        stays("it is open", STATE, x -> x.shuts(0, 0));
        stays("it is closed", STATE, x -> x.shuts(2, 1));
        ElbowRanks x = Checks.told("l0 1 14;p5 0;p5 1;");
        x.meets(0, 1, 0);
        due("closed by a meeting", x.shuts(0, 1), STATE);
    }

    // ---- undo

    private static void undoNone() {
        sentence(12, "STATE: none.");
        due("a new object", new ElbowRanks().undo(), STATE);
        due("as told", Checks.told("l0 1 9;p0 0;").undo(), STATE);
        Supplier<ElbowRanks> made = () -> Checks.told("l0 1 9;p0 0;");
        ElbowRanks x = made.get();
        x.goes(0, 0);
        due("one", x.undo(), 0);
        due("none", x.undo(), STATE);
        due("none again", x.undo(), STATE);
        due("as told still", x.person(0, 1), 0);
        due("one again", x.goes(0, 0), 1);
        due("one again undone", x.undo(), 0);
        changesNothing("none", made, y -> y.undo());
    }

    private static void undoTen() {
        sentence(12, "10 are known, older ones are lost");
        for (int done = 1; done <= 31; done++) {
            ElbowRanks x = Checks.told("l0 1 40;p0 0;");
            for (int deed = 0; deed < done; deed++) {
                x.patents(0, (deed + 1) % 10);
            }
            int known = Math.min(10, done);
            due(done + " done, known", x.count(6), known);
            for (int left = known - 1; left >= 0; left--) {
                due(done + " done, left", x.undo(), left);
                due(done + " done, elbow with " + left + " left", x.person(0, 0), (done - known + left) % 10);
            }
            due(done + " done, none left", x.undo(), STATE);
        }
    }

    private static void undoHowManyMore() {
        sentence(12, "UNDONE: how many more may be.");
        ElbowRanks x = Checks.told("l0 1 40;p0 0;");
        for (int deed = 0; deed < 10; deed++) {
            x.shuts(0, (deed + 1) % 2);
        }
        due("of ten", x.undo(), 9);
        due("of nine", x.undo(), 8);
        due("another deed", x.goes(0, 0), 1);
        due("which makes nine", x.count(6), 9);
        due("of those nine", x.undo(), 8);
        due("where he was", x.person(0, 1), 0);
    }

    private static void undoEach() {
        sentence(12, "the latest GONE, MET, CLAIMED, PATENT, CLOSED, opened ... all is as ahead of it");
        undone("gone", 1, Boundary::busy, x -> x.goes(3, 1));
        undone("claimed", 6, () -> Checks.told("p5 0;p1 0;"), x -> x.claims(0, 1));
        undone("patent", 5, Boundary::busy, x -> x.patents(2, 9));
        undone("closed", 2, Boundary::busy, x -> x.shuts(0, 1));
        undone("opened", 0, Boundary::busy, x -> x.shuts(2, 0));
        undone("met, both pass", 0, () -> Checks.told("l0 1 26;p5 0;p4 1;"), x -> x.meets(0, 1, 0));
        undone("met, the first passes", 1, () -> Checks.told("l0 1 25;p5 0;p4 1;"), x -> x.meets(0, 1, 0));
        undone("met, the second passes", 2, () -> Checks.told("l0 1 25;p5 0;p4 1;"), x -> x.meets(1, 0, 0));
        undone("met, it is closed", 3, () -> Checks.told("l0 1 14;p5 0;p5 1;"), x -> x.meets(0, 1, 0));
    }

    private static void undone(String what, int answer, Supplier<ElbowRanks> made, Call deed) {
        ElbowRanks x = made.get();
        int known = x.count(6);
        due(what, deed.on(x), answer);
        due(what + ", known", x.count(6), known + 1);
        due(what + ", undone", x.undo(), known);
        changesNothing(what + ", undone", made, y -> {
            deed.on(y);
            y.undo();
        });
    }

    private static void undoLeaves() {
        sentence(12, "UNDONE: the latest GONE, MET, CLAIMED, PATENT, CLOSED, opened", "no others");
        ElbowRanks x = Checks.told("l0 1 40;p0 0;");
        x.goes(0, 0);
        x.gate(0, 4);
        x.mark(0, 0);
        x.keep(0);
        x.type('b');
        due("he went", x.undo(), 0);
        due("where he was", x.person(0, 1), 0);
        due("what was measured", x.count(5), 1);
        due("the trace", x.trace(), 1);
        due("the text", x.count(7), 1);
        due("the image", x.back(0), 0);
        due("as the image has it", x.person(0, 1), 1);
    }

    private static void undoNoRefused() {
        sentence(12, "Refused, and nothing changes");
        ElbowRanks x = Checks.told("l0 1 14;p5 0;p5 0;");
        x.patents(1, 4);
        due("gone BAD", x.goes(2, 0), BAD);
        due("met STATE", x.meets(0, 1, 0), STATE);
        due("patent STATE", x.patents(1, 4), STATE);
        due("opened STATE", x.shuts(0, 0), STATE);
        due("claimed BAD", x.claims(0, 0), BAD);
        due("the patent", x.undo(), 0);
        due("the elbow of before", x.person(1, 0), 5);
    }

    // ---- now

    private static void nowWhat() {
        sentence(13, "0 LANES that are CLOSED (bits) ... 3 PADDED (bits). BAD.");
        range("what", 0, 3, (x, what) -> x.now(what));
    }

    private static void nowClosed() {
        sentence(13, "0 LANES that are CLOSED (bits)");
        ElbowRanks x = Checks.told(times(8, "l0 1 14;"));
        due("none", x.now(0), 0);
        int bits = 0;
        for (int l = 7; l >= 0; l--) {
            x.shuts(l, 1);
            bits += 1 << l;
            due("closed from " + l, x.now(0), bits);
        }
        due("all eight", x.now(0), 255);
        due("of no lanes", Checks.told("p0 0;").now(0), 0);
    }

    private static void nowGaveWay() {
        sentence(13, "1 how often any GAVE WAY");
        due("nobody", Checks.told("").now(1), 0);
        ElbowRanks x = Checks.told("l0 1 21;p5 0;p4 1;p3 1;p2 1;p1 1;");
        due("at first", x.now(1), 0);
        for (int p = 1; p < 5; p++) {
            x.patents(p, 4);
            due("met " + p, x.meets(0, p, 0), 1);
            due("all together", x.now(1), p);
            x.goes(0, 0);
        }
        due("one of them", x.person(4, 3), 1);
    }

    private static void nowElbows() {
        sentence(13, "2 ELBOWS of all together");
        due("nobody", Checks.told("").now(2), 0);
        due("five of 0", Checks.told(times(5, "p0 0;")).now(2), 0);
        due("five of 9", Checks.told(times(5, "p9 0;")).now(2), 45);
        due("only of those there are", busy().now(2), 14);
    }

    private static void nowPadded() {
        sentence(13, "PADDED: PEOPLE (bits) whose ELBOW is not among those that FIT");
        ElbowRanks x = Checks.told(times(5, "p5 0;"));
        due("nothing measured", x.now(3), 0);
        int bits = 0;
        for (int p = 4; p >= 0; p--) {
            x.gate(p, 16);
            bits += 1 << p;
            due("14 inches, measured 16, from " + p, x.now(3), bits);
        }
        due("all five", x.now(3), 31);
        x.patents(2, 6);
        due("16 inches now", x.now(3), 31 - 4);
        x.forget();
        due("nothing measured again", x.now(3), 0);
        int[] inches = {12, 13, 14, 15, 16};
        int[] padded = {1, 0, 0, 0, 1};
        for (int i = 0; i < inches.length; i++) {
            ElbowRanks y = Checks.told("p5 0;");
            y.gate(0, inches[i]);
            due("14 inches, measured " + inches[i], y.now(3), padded[i]);
        }
    }

    private static void nowChangesNothing() {
        sentence(13, "Nothing is changed");
        stays("closed", 4, x -> x.now(0));
        stays("padded", 2 + 4, x -> x.now(3));
    }
}
