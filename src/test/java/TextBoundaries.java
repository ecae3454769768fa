import java.util.function.Supplier;

/** Promises 2 to 4: THE TEXT, and how it is read. */
final class TextBoundaries extends Boundary {
    private static final String EIGHT_LANES = times(8, "l0 1 1;");
    private static final String FIVE_PEOPLE = times(5, "p0 0;");

    private TextBoundaries() {
    }

    static void all() {
        bytes();
        mostBytes();
        badAheadOfFull();
        clearing();
        noItems();
        mostItems();
        blanks();
        tokensThatEndWithoutBlanks();
        itemsAreEnded();
        placesFirst();
        howManyPlaces();
        placesThereAre();
        unlikePlaces();
        widths();
        mostLanes();
        elbows();
        mostPeople();
        bodies();
        errors();
        onceEach();
        bytesOfTokens();
        lettersThatBeginNoItem();
        whatIsDueIsAnother();
        numbersAbove99();
        numbersWithA0Ahead();
        endsTooEarly();
        theFirstFault();
        howManyItems();
        emptyThen();
        faultsChangeNothing();
    }

    private static void reads(String text, int items) {
        ElbowRanks x = new ElbowRanks();
        Checks.type(x, text);
        due("\"" + text + "\"", x.capital(), items);
        due("\"" + text + "\" is empty then", x.count(7), 0);
    }

    private static void faultOf(String text, int fault) {
        ElbowRanks x = new ElbowRanks();
        Checks.type(x, text);
        due("\"" + text + "\"", x.capital(), -10 - fault);
        due("\"" + text + "\" stays", x.count(7), text.length());
    }

    /** Of 0 to 99 the numbers from the least to the greatest can stand between these two, no others. */
    private static void numbers(String ahead, int least, int greatest, String behind, int items) {
        for (int number = 0; number <= 99; number++) {
            String text = ahead + number + behind;
            if (number >= least && number <= greatest) {
                reads(text, items);
            } else {
                faultOf(text, ahead.length());
            }
        }
    }

    // ---- type, clear

    private static void bytes() {
        sentence(2, "A byte (0 .. 255) comes to THE TEXT: how many it has. BAD");
        ElbowRanks x = new ElbowRanks();
        for (int c = 0; c < 150; c++) {
            due("byte " + c, x.type(c), c + 1);
        }
        x.clear();
        for (int c = 150; c <= 255; c++) {
            due("byte " + c, x.type(c), c - 149);
        }
        range("byte", 0, 255, (y, c) -> y.type(c));
        ElbowRanks z = new ElbowRanks();
        due("';' and 256", z.type(';' + 256), BAD);
        due("';' less 256", z.type(';' - 256), BAD);
        due("none of them came", z.capital(), 0);
    }

    private static void mostBytes() {
        sentence(2, "a text (150 bytes at most)");
        ElbowRanks x = new ElbowRanks();
        Checks.type(x, "b3;" + blanks(146));
        due("the 150th", x.type(32), 150);
        due("the 151st", x.type('b'), FULL);
        due("it did not come", x.count(7), 150);
        due("150 bytes are read", x.capital(), 1);
        due("there is room again", x.type('b'), 1);
        sentence(2, "FULL");
        Checks.type(x, "3;" + blanks(147));
        due("a letter", x.type('x'), FULL);
        due("a byte 0", x.type(0), FULL);
        due("the text is as it was", x.capital(), 1);
        faultOf(blanks(149) + "n", 150);
        faultOf(blanks(149) + "x", 149);
    }

    private static void badAheadOfFull() {
        sentence(2, "the first of these: BAD");
        ElbowRanks x = new ElbowRanks();
        Checks.type(x, blanks(150));
        due("256 of a full one", x.type(256), BAD);
        due("-1 of a full one", x.type(-1), BAD);
        due("255 of a full one", x.type(255), FULL);
    }

    private static void clearing() {
        sentence(3, "THE TEXT is empty: how many bytes it had.");
        ElbowRanks x = new ElbowRanks();
        due("of none", x.clear(), 0);
        x.type(0);
        due("of one", x.clear(), 1);
        due("of none again", x.clear(), 0);
        Checks.type(x, blanks(150));
        due("of 150", x.clear(), 150);
        due("how many then", x.count(7), 0);
        due("there is room for one", x.type('b'), 1);
        due("it is read from the new one on", x.capital(), -10 - 1);
        due("of a faulty one", x.clear(), 1);
        due("an empty one is read", x.capital(), 0);
        due("of a busy one", busy().clear(), 2);
        changesNothing("clear and type", Boundary::busy, y -> {
            y.clear();
            Checks.type(y, "b3");
        });
    }

    // ---- ITEMS

    private static void noItems() {
        sentence(4, "ITEMS (none, too)");
        reads("", 0);
        reads(" ", 0);
        reads(blanks(150), 0);
        counts("none", Checks.told(""), 2, 0, 0, 4, 1, 0, 0, 0);
    }

    private static void mostItems() {
        sentence(4, "how many ITEMS");
        reads("n2;" + EIGHT_LANES + FIVE_PEOPLE + "b1;e0;", 16);
        reads("e0;", 1);
    }

    private static void blanks() {
        sentence(4, "blanks (32) ahead of, between and behind TOKENS as may be");
        reads("  n  3  ;   l   0  2   40  ;  p  9   2  ;  b  9 ;   e   3  ;   ", 5);
        reads(blanks(147) + "b3;", 1);
        reads("b" + blanks(147) + "3;", 1);
        reads("b3;" + blanks(147), 1);
        int[] none = {0, 9, 10, 13, 31, 33, 64, 96, 128, 160, 255};
        for (int c : none) {
            faultOf("b3;" + (char) c, 3);
            faultOf((char) c + "b3;", 0);
            faultOf("l0 1" + (char) c + "5;", 4);
        }
    }

    private static void tokensThatEndWithoutBlanks() {
        sentence(4, "none needed where TOKENS end without");
        reads("n3;l0 2 40;p9 2;b9;e0;", 5);
        // Here NUMBERS side by side are one NUMBER.
        faultOf("l01 5;", 1);
        faultOf("l0 15;", 3);
        faultOf("n8;l10 5;", 4);
        faultOf("p10;", 1);
        faultOf("n 3l0 1 5;", 3);
    }

    private static void itemsAreEnded() {
        sentence(4, "each letters and what is told, ended by ;");
        faultOf("b3e2;", 2);
        faultOf("b3 4;", 3);
        faultOf("l0 1 5 p0 0;", 7);
        faultOf("p0 0 0;", 5);
        faultOf("b3;;", 3);
        faultOf(";b3;", 0);
        faultOf("b;", 1);
        faultOf("p0;", 2);
        faultOf("l0 1;", 4);
        faultOf("l;", 1);
    }

    private static void placesFirst() {
        sentence(4, "n N (places; the first of all, if it is told)");
        reads("n3;b3;", 2);
        reads("b3;", 1);
        due("not told", Checks.told("b3;").count(0), 2);
        faultOf("b3;n3;", 3);
        faultOf("n3;n3;", 3);
        faultOf("e0; n2;", 4);
        faultOf("l0 1 1;n2;", 7);
        faultOf("p0 0;n2;", 5);
        // However it goes on: the letters can't stand there.
        faultOf("b3;n", 3);
        faultOf("b3;n?", 3);
    }

    private static void howManyPlaces() {
        sentence(4, "as many as are told less 1 ... 8; 2 at first");
        numbers("n", 2, 8, ";", 1);
        due("2", Checks.told("n2;").count(0), 2);
        due("8", Checks.told("n8;").count(0), 8);
        due("2 at first", Checks.told("").count(0), 2);
    }

    private static void placesThereAre() {
        sentence(4, "A, B PLACES there are");
        firstPlaces("l", 1, 1);
        firstPlaces("n2;l", 1, 2);
        firstPlaces("n5;l", 4, 2);
        firstPlaces("n8;l", 7, 2);
        numbers("l0 ", 1, 1, " 5;", 1);
        numbers("n5;l0 ", 1, 4, " 5;", 2);
        numbers("n8;l7 ", 0, 6, " 5;", 2);
        numbers("p0 ", 0, 1, ";", 1);
        numbers("n5;p0 ", 0, 4, ";", 2);
        numbers("n8;p0 ", 0, 7, ";", 2);
    }

    /** Numbers that may stand for A; B is another PLACE always, so that A alone can be wrong. */
    private static void firstPlaces(String ahead, int greatest, int items) {
        for (int place = 0; place <= 99; place++) {
            String text = ahead + place + (place == 0 ? " 1 5;" : " 0 5;");
            if (place <= greatest) {
                reads(text, items);
            } else {
                faultOf(text, ahead.length());
            }
        }
    }

    private static void unlikePlaces() {
        sentence(4, "B that is A");
        for (int place = 0; place < 8; place++) {
            faultOf("n8;l" + place + " " + place + " 5;", 6);
        }
        faultOf("l0  0 99;", 4);
        reads("l0 1 5;l1 0 5;", 2);
    }

    private static void widths() {
        sentence(4, "WIDTH (1 .. 40 inches)");
        numbers("l0 1 ", 1, 40, ";", 1);
        due("1", Checks.told("l0 1 1;").lane(0, 2), 1);
        due("40", Checks.told("l0 1 40;").lane(0, 2), 40);
    }

    private static void mostLanes() {
        sentence(4, "a ninth lane");
        reads(EIGHT_LANES, 8);
        due("eight", Checks.told(EIGHT_LANES).count(1), 8);
        faultOf(EIGHT_LANES + "l0 1 1;", 56);
        faultOf(EIGHT_LANES + "  l", 58);
        faultOf(EIGHT_LANES + "l0 0 99;", 56);
        faultOf("n2;" + EIGHT_LANES + FIVE_PEOPLE + "b1;e0;l0 1 1;", 90);
    }

    private static void elbows() {
        sentence(4, "ELBOW (0 .. 9 inches)");
        numbers("p", 0, 9, " 0;", 1);
        due("0", Checks.told("p0 0;").person(0, 0), 0);
        due("9", Checks.told("p9 0;").person(0, 0), 9);
    }

    private static void mostPeople() {
        sentence(4, "a sixth person");
        reads(FIVE_PEOPLE, 5);
        due("five", Checks.told(FIVE_PEOPLE).count(2), 5);
        faultOf(FIVE_PEOPLE + "p0 0;", 25);
        faultOf(FIVE_PEOPLE + "  p", 27);
        faultOf(FIVE_PEOPLE + "p99;", 25);
        faultOf("n2;" + EIGHT_LANES + FIVE_PEOPLE + "b1;e0;p0 0;", 90);
    }

    private static void bodies() {
        sentence(4, "BODY (1 .. 9 inches; 4 at first)");
        numbers("b", 1, 9, ";", 1);
        due("1", Checks.told("b1;").count(3), 1);
        due("9", Checks.told("b9;").count(3), 9);
        due("4 at first", Checks.told("").count(3), 4);
    }

    private static void errors() {
        sentence(4, "ERROR (0 .. 3 inches; 1 at first)");
        numbers("e", 0, 3, ";", 1);
        due("0", Checks.told("e0;").count(4), 0);
        due("3", Checks.told("e3;").count(4), 3);
        due("1 at first", Checks.told("").count(4), 1);
    }

    private static void onceEach() {
        sentence(4, "b, e once each at most");
        reads("b3;e2;", 2);
        reads("e2;b3;", 2);
        faultOf("b3;b3;", 3);
        faultOf("e2;e2;", 3);
        faultOf("b4;e1;b", 6);
        faultOf("b4;e1; e", 7);
        ElbowRanks x = Checks.told("b3;e2;");
        Checks.type(x, "b5;e0;");
        due("again in another text", x.capital(), 2);
        Checks.type(x, "b5;b");
        due("twice", x.capital(), -10 - 3);
        x.clear();
        Checks.type(x, "b5;");
        due("again behind a faulty text", x.capital(), 1);
    }

    // ---- TOKENS

    private static void bytesOfTokens() {
        sentence(4, "TOKENS are letters a .. z side by side, NUMBERS and ;");
        for (int c = 0; c < 256; c++) {
            boolean begins = c == 32 || c == ';' || (c >= '0' && c <= '9') || (c >= 'a' && c <= 'z');
            if (!begins) {
                faultOf("b3;" + (char) c, 3);
                faultOf("b" + (char) c + "3;", 1);
                faultOf("b3" + (char) c + ";", 2);
            }
        }
    }

    private static void lettersThatBeginNoItem() {
        sentence(4, "letters that begin no ITEM");
        for (char c = 'a'; c <= 'z'; c++) {
            if ("nlpbe".indexOf(c) < 0) {
                faultOf(c + "3;", 0);
                faultOf("b3; " + c + "3;", 4);
            }
            // Letters side by side are one TOKEN.
            faultOf("b" + c + "3;", 0);
            faultOf("e1; " + c + "b3;", 4);
        }
        faultOf("zzzz", 0);
    }

    private static void whatIsDueIsAnother() {
        sentence(4, "the first byte of the first TOKEN that can't stand there");
        for (int number = 0; number <= 99; number++) {
            faultOf(number + " 3;", 0);
        }
        faultOf("  ;", 2);
        faultOf("b3; 12", 4);
        faultOf("b b;", 2);
        faultOf("l0 l", 3);
        faultOf("l0 1  bb", 6);
        faultOf("p n;", 2);
        faultOf("p0 ;", 3);
        faultOf("n 2 nn", 4);
    }

    private static void numbersAbove99() {
        sentence(4, "a NUMBER above 99 ... that TOKEN's");
        faultOf("b100;", 1);
        faultOf("b 999;", 2);
        // 2 and as much as an int, a long, a byte, a short can't hold.
        faultOf("n4294967298;", 1);
        faultOf("n18446744073709551618;", 1);
        faultOf("n258;", 1);
        faultOf("n65538;", 1);
        faultOf("n102;", 1);
        faultOf("n1000000002;", 1);
        faultOf("l0 1  100;", 6);
        faultOf("b3;100;", 3);
        faultOf("b" + times(149, "1"), 1);
        faultOf(times(150, "9"), 0);
    }

    private static void numbersWithA0Ahead() {
        sentence(4, "a NUMBER ... with a 0 ahead of others, that TOKEN's");
        faultOf("n02;", 1);
        faultOf("b 009;", 2);
        faultOf("e00;", 1);
        faultOf("p00 0;", 1);
        faultOf("p0 01;", 3);
        faultOf("l0 01 5;", 3);
        faultOf("l0 1 05;", 5);
        faultOf("00;", 0);
        reads("p0 0;e0;", 2);
        reads("l1 0 10;", 1);
    }

    private static void endsTooEarly() {
        sentence(4, "the text's length, if it ends too early");
        String text = " n3; l0 2 40 ;p 9 2; b 9;e0 ; ";
        int items = 0;
        for (int end = 0; end <= text.length(); end++) {
            String begun = text.substring(0, end);
            if (end > 0 && text.charAt(end - 1) == ';') {
                items++;
            }
            if (begun.isBlank() || begun.trim().endsWith(";")) {
                reads(begun, items);
            } else {
                faultOf(begun, end);
            }
        }
        due("all of it", items, 5);
        faultOf("b", 1);
        faultOf("b3" + blanks(148), 150);
    }

    private static void theFirstFault() {
        sentence(4, "FAULT: the place of ... the first TOKEN that can't stand there");
        faultOf("b0;e9;", 1);
        faultOf("b3;e9;?", 4);
        faultOf("?b0;", 0);
        faultOf("b?0;", 1);
        faultOf("n9;l9 9 99;", 1);
        faultOf("l0 0 100;", 3);
        faultOf("l1 1", 3);
        faultOf("b0", 1);
    }

    // ---- what comes of it

    private static void howManyItems() {
        sentence(4, "THE TEXT tells all ... how many ITEMS");
        StringBuilder text = new StringBuilder();
        for (int items = 0; items <= 5; items++) {
            reads(text.toString(), items);
            text.append("p0 0;");
        }
    }

    private static void emptyThen() {
        sentence(4, "THE TEXT tells all, and is empty then");
        ElbowRanks x = Checks.told("b3;");
        due("empty", x.count(7), 0);
        due("nothing to clear", x.clear(), 0);
        due("the first byte", x.type('e'), 1);
        Checks.type(x, "2;");
        due("read alone", x.capital(), 1);
        due("what is not told is as at first", x.count(3), 4);
    }

    private static void faultsChangeNothing() {
        sentence(4, "-10 less FAULT: nothing changes (THE TEXT, too, stays)");
        stays("capital of \"b3\"", -10 - 2, x -> x.capital());
        String[] behind = {";n4;", ";l0 1 5;p5 1;e3;?", ";e0;b", ";p1 1;p1 1;p1 1;p1 1;p1 1;p1 1;", ";l0 1 9"};
        int[] faults = {3, 18, 6, 28, 9};
        for (int i = 0; i < behind.length; i++) {
            String more = behind[i];
            Supplier<ElbowRanks> typed = () -> after(Boundary::busy, x -> Checks.type(x, more));
            due("b3" + more, typed.get().capital(), -10 - faults[i]);
            changesNothing("b3" + more, typed, x -> x.capital());
        }
        ElbowRanks x = new ElbowRanks();
        Checks.type(x, "n3");
        due("twice the same", x.capital(), -12);
        due("twice the same", x.capital(), -12);
        x.type(';');
        due("gone on with", x.capital(), 1);
        due("places", x.count(0), 3);
    }
}
