import java.util.function.Supplier;

/** Promises 25 to 29: KINDS, IMAGES, counts, THE TRACE. */
final class KindBoundaries extends Boundary {
    private static final String ROW = "n8;l0 1 4;l1 2 4;l2 3 4;l3 4 4;l4 5 4;l5 6 4;l6 7 4;";

    private KindBoundaries() {
    }

    static void all() {
        markKinds();
        markPerson();
        markEarl();
        markPage();
        markBride();
        markTailor();
        markThief();
        markNo();
        markChangesNothingElse();
        keepHowMany();
        keepImages();
        keepAnew();
        keepChangesNothing();
        backNone();
        backHowMany();
        backAllOfThat();
        backNothingElse();
        backToUndone();
        backBad();
        countLeast();
        countMost();
        countBad();
        countChangesNothing();
        traceAtFirst();
        traceOften();
        traceOfAllCalls();
        traceOfRefused();
    }

    // ---- mark

    private static void markKinds() {
        sentence(25, "0 PERSON; 1 EARL, 2 PAGE, 5 THIEF ... 3 BRIDE ... 4 TAILOR ... NO: BAD");
        range("kind", 0, 5, NO, Boundary::busy, (x, kind) -> x.mark(kind, 1));
        range("person", 0, 3, NO, Boundary::busy, (x, p) -> x.mark(3, p));
        due("nobody is there", Checks.told("").mark(0, 0), NO);
        due("the fifth", Checks.told(times(5, "p0 0;")).mark(0, 4), 4);
        due("a sixth", Checks.told(times(5, "p0 0;")).mark(0, 5), NO);
    }

    private static void markPerson() {
        sentence(25, "PERSON how WIDE he is");
        due("the least", Checks.told("b1;p0 0;").mark(0, 0), 1);
        due("the greatest", Checks.told("b9;p9 0;").mark(0, 0), 27);
    }

    private static void markEarl() {
        sentence(25, "EARL up, and how many PLACES his REACH has");
        due("where he is alone", Checks.told("p0 1;").mark(1, 0), 4 + 1);
        due("all", Checks.told(ROW + "p0 3;").mark(1, 0), 4 + 8);
        due("too wide", Checks.told(ROW + "p1 3;").mark(1, 0), 6 + 1);
    }

    private static void markPage() {
        sentence(25, "PAGE up less his number");
        ElbowRanks x = Checks.told("b1;" + times(5, "p0 0;"));
        for (int p = 0; p < 5; p++) {
            due("of " + p, x.mark(2, p), 1 - p);
        }
        due("the greatest", Checks.told("b9;p9 0;").mark(2, 0), 27);
    }

    private static void markBride() {
        sentence(25, "BRIDE up times 2");
        due("the least", Checks.told("b1;p0 0;").mark(3, 0), 2 * (1 + 1));
        String wide = "n8;b9;l0 1 40;l1 2 40;l2 3 40;l3 4 40;l4 5 40;l5 6 40;l6 7 40;p9 0;";
        due("the greatest", Checks.told(wide).mark(3, 0), 2 * (27 + 8));
    }

    private static void markTailor() {
        sentence(25, "TAILOR up, and how often he GAVE WAY");
        ElbowRanks x = Checks.told("l0 1 25;p5 0;p4 1;");
        due("never", x.mark(4, 1), 12 - 1);
        for (int often = 1; often <= 3; often++) {
            x.meets(0, 1, 0);
            x.goes(0, 0);
            due("often", x.mark(4, 1), 12 - 1 + often);
        }
        due("who passed", x.mark(4, 0), 14);
        due("the least", Checks.told("b1;" + times(5, "p0 0;")).mark(4, 4), 1 - 4);
    }

    private static void markThief() {
        sentence(25, "THIEF up, and how many LANES are CLOSED");
        ElbowRanks x = Checks.told(times(8, "l0 1 4;") + "p0 0;");
        due("none", x.mark(5, 0), 4);
        for (int l = 0; l < 8; l++) {
            x.shuts(7 - l, 1);
            due("closed " + (l + 1), x.mark(5, 0), 4 + l + 1);
        }
        due("of no lanes", Checks.told("p0 0;").mark(5, 0), 4);
    }

    private static void markNo() {
        sentence(25, "NO: BAD.", "nothing comes to THE TRACE");
        int[][] asked = {{-1, 0}, {6, 0}, {0, -1}, {0, 4}, {6, 4}, {LOW, 0}, {5, HIGH}};
        for (int[] numbers : asked) {
            stays("mark " + numbers[0] + " " + numbers[1], NO, x -> x.mark(numbers[0], numbers[1]));
        }
    }

    private static void markChangesNothingElse() {
        sentence(25, "numbers in brackets come to THE TRACE");
        ElbowRanks x = busy();
        int[] marks = {12, 15, 11, 30, 12, 13};
        for (int kind = 0; kind < marks.length; kind++) {
            due("kind " + kind, x.mark(kind, 1), marks[kind]);
        }
        counts("marked", x, 3, 3, 4, 4, 1, 2, 5, 2);
        due("closed", x.now(0), 4);
        due("gave way", x.now(1), 1);
        due("elbows", x.now(2), 14);
        due("where he is", x.person(1, 1), 2);
        due("undone", x.undo(), 4);
    }

    // ---- keep, back

    private static void keepHowMany() {
        sentence(26, "An IMAGE is kept: how many LANES are CLOSED.");
        due("of no lanes", Checks.told("").keep(0), 0);
        ElbowRanks x = Checks.told(times(8, "l0 1 4;"));
        due("none", x.keep(0), 0);
        for (int l = 0; l < 8; l++) {
            x.shuts(l, 1);
            due("closed " + (l + 1), x.keep(l % 2), l + 1);
        }
    }

    private static void keepImages() {
        sentence(26, "IMAGES 0, 1 ... BAD");
        range("image", 0, 1, (x, image) -> x.keep(image));
        ElbowRanks x = Checks.told("p0 0;");
        due("one", x.keep(1), 0);
        due("the other is not kept", x.back(0), STATE);
        x.patents(0, 5);
        due("the other", x.keep(0), 0);
        due("back to one", x.back(1), 0);
        due("as one has it", x.person(0, 0), 0);
        due("back to the other", x.back(0), 0);
        due("as the other has it", x.person(0, 0), 5);
    }

    private static void keepAnew() {
        sentence(26, "An IMAGE is kept", "anew");
        ElbowRanks x = Checks.told("p0 0;");
        x.patents(0, 1);
        x.keep(0);
        x.patents(0, 2);
        x.patents(0, 3);
        x.keep(0);
        x.patents(0, 4);
        due("back", x.back(0), 0);
        due("as it was kept anew", x.person(0, 0), 3);
        due("what may be undone, too", x.count(6), 3);
        due("the latest of it", x.undo(), 2);
        due("undone", x.person(0, 0), 2);
    }

    private static void keepChangesNothing() {
        sentence(26, "IMAGES 0, 1 keep NOW");
        ElbowRanks x = busy();
        due("kept", x.keep(1), 1);
        due("undone as before", x.undo(), 4);
        Supplier<ElbowRanks> kept = () -> after(Boundary::busy, y -> y.keep(1));
        changesNothing("kept again", kept, y -> y.keep(1));
        changesNothing("undone and back", kept, y -> {
            y.undo();
            y.undo();
            y.back(1);
        });
    }

    private static void backNone() {
        sentence(27, "STATE: none was kept.");
        due("a new object", new ElbowRanks().back(0), STATE);
        due("a new object", new ElbowRanks().back(1), STATE);
        stays("only 0 was kept", STATE, x -> x.back(1));
        ElbowRanks x = Checks.told("p0 0;");
        x.keep(1);
        due("only 1 was kept", x.back(0), STATE);
        due("1 was kept", x.back(1), 0);
        due("and stays kept", x.back(1), 0);
        x.type('n');
        due("a faulty text", x.capital(), -11);
        due("leaves it kept", x.back(1), 0);
        x.clear();
        due("an empty text", x.capital(), 0);
        due("does not", x.back(1), STATE);
    }

    private static void backHowMany() {
        sentence(27, "how many LANES are CLOSED");
        ElbowRanks x = Checks.told(times(8, "l0 1 4;"));
        x.keep(0);
        for (int l = 0; l < 8; l++) {
            x.shuts(l, 1);
        }
        x.keep(1);
        due("none", x.back(0), 0);
        due("none, as bits", x.now(0), 0);
        due("all", x.back(1), 8);
        due("all, as bits", x.now(0), 255);
    }

    private static void backAllOfThat() {
        sentence(27, "where all are, ELBOWS, what is CLOSED, how often each GAVE WAY, what may be UNDONE");
        Supplier<ElbowRanks> kept = () -> after(Boundary::busy, y -> y.keep(1));
        ElbowRanks x = after(kept, KindBoundaries::doAll);
        due("deeds since", x.count(6), 10);
        due("who gave way since", x.person(1, 3), 2);
        due("closed since", x.now(0), 1);
        due("back", x.back(1), 1);
        due("who gave way", x.person(1, 3), 1);
        due("closed", x.now(0), 4);
        due("where he is", x.person(2, 1), 2);
        due("his elbow", x.person(0, 0), 5);
        due("deeds", x.count(6), 5);
        changesNothing("all done, and back", kept, y -> {
            doAll(y);
            y.back(1);
        });
    }

    private static void doAll(ElbowRanks x) {
        x.goes(3, 1);
        x.patents(0, 9);
        x.shuts(0, 1);
        x.shuts(2, 0);
        x.goes(2, 1);
        x.meets(2, 1, 1);
    }

    private static void backNothingElse() {
        sentence(27, "nothing else");
        ElbowRanks x = Checks.told("n3;b2;e3;l0 1 9;p1 0;");
        x.gate(0, 4);
        x.mark(0, 0);
        x.type('b');
        x.keep(0);
        x.gate(0, 40);
        x.mark(1, 0);
        x.type('3');
        x.patents(0, 2);
        due("back", x.back(0), 0);
        counts("back", x, 3, 1, 1, 2, 3, 2, 0, 2);
        due("the trace", x.trace(), 12);
        due("what was measured", x.fits(0), 0);
        due("the elbow", x.person(0, 0), 1);
        x.forget();
        x.clear();
        due("back again", x.back(0), 0);
        counts("back again", x, 3, 1, 1, 2, 3, 0, 0, 0);
        due("nothing was measured", x.fits(0), 1023);
    }

    private static void backToUndone() {
        sentence(27, "what may be UNDONE");
        ElbowRanks x = Checks.told("p0 0;");
        x.keep(0);
        for (int deed = 0; deed < 11; deed++) {
            x.patents(0, (deed + 1) % 10);
        }
        x.keep(1);
        due("back to none", x.back(0), 0);
        due("none to be undone", x.undo(), STATE);
        // Deeds that the image knows nothing of.
        for (int deed = 0; deed < 12; deed++) {
            x.patents(0, 8 + deed % 2);
        }
        due("back to ten", x.back(1), 0);
        for (int left = 9; left >= 0; left--) {
            due("left", x.undo(), left);
            due("elbow with " + left + " left", x.person(0, 0), (left + 1) % 10);
        }
        due("none left", x.undo(), STATE);
        due("back to ten again", x.back(1), 0);
        due("ten again", x.undo(), 9);
    }

    private static void backBad() {
        sentence(27, "All of that becomes as an IMAGE has it ... BAD");
        range("image", 0, 1, (x, image) -> x.back(image));
    }

    // ---- count, trace

    private static void countLeast() {
        sentence(28, "0 PLACES, 1 LANES, 2 PEOPLE, 3 BODY, 4 ERROR, 5 what was measured (how much), 6 how many "
                + "may be UNDONE, 7 bytes of THE TEXT", "the least");
        counts("told", Checks.told("n2;b1;e0;"), 2, 0, 0, 1, 0, 0, 0, 0);
    }

    private static void countMost() {
        sentence(28, "0 PLACES, 1 LANES, 2 PEOPLE, 3 BODY, 4 ERROR, 5 what was measured (how much), 6 how many "
                + "may be UNDONE, 7 bytes of THE TEXT", "the most");
        ElbowRanks x = Checks.told("n8;b9;e3;" + times(8, "l0 1 1;") + times(5, "p0 0;"));
        for (int i = 0; i < 12; i++) {
            x.shuts(7, 1 - i % 2);
            x.gate(4, 9);
        }
        for (int i = 0; i < 151; i++) {
            x.type(32);
        }
        counts("full", x, 8, 8, 5, 9, 3, 6, 10, 150);
    }

    private static void countBad() {
        sentence(28, "7 bytes of THE TEXT. BAD.");
        range("what", 0, 7, (x, what) -> x.count(what));
    }

    private static void countChangesNothing() {
        sentence(28, "Nothing is changed");
        stays("count", 5, x -> x.count(6));
        sentence(29, "Nothing is changed");
        stays("trace", 11, x -> (int) x.trace());
    }

    private static void traceAtFirst() {
        sentence(29, "THE TRACE (0 at first");
        due("a new object", new ElbowRanks().trace(), 0);
        due("told", Checks.told("p0 0;").trace(), 0);
        // Each object has its own.
        ElbowRanks x = Checks.told("p0 0;");
        x.mark(0, 0);
        due("another object", Checks.told("p0 0;").trace(), 0);
        due("it", x.trace(), 1);
    }

    private static void traceOften() {
        sentence(29, "numbers in brackets come to THE TRACE ... as often as mark() asks that body");
        int[] comes = {1, 11, 101, 1011, 10101, 100001};
        for (int kind = 0; kind < comes.length; kind++) {
            ElbowRanks x = Checks.told("n8;p0 7;p3 0;");
            x.mark(kind, 0);
            due("kind " + kind, x.trace(), comes[kind]);
            x.mark(kind, 1);
            due("kind " + kind + " twice", x.trace(), 2 * comes[kind]);
        }
    }

    private static void traceOfAllCalls() {
        sentence(29, "of all calls ever, together");
        ElbowRanks x = Checks.told("p0 0;");
        for (int often = 0; often < 400; often++) {
            x.mark(5, 0);
        }
        due("400 of 100001", x.trace(), 40000400);
        x.keep(0);
        x.patents(0, 1);
        x.mark(0, 0);
        x.undo();
        due("undone", x.trace(), 40000401);
        x.back(0);
        due("back", x.trace(), 40000401);
        due("read anew", x.capital(), 0);
        due("it stays", x.trace(), 40000401);
    }

    private static void traceOfRefused() {
        sentence(29, "Refused, and nothing changes");
        ElbowRanks x = Checks.told("l0 1 9;p0 0;");
        x.mark(4, 1);
        x.mark(-1, 0);
        x.mark(6, 0);
        due("refused ones", x.trace(), 0);
        x.person(0, 4);
        x.way(0, 1, -1);
        x.meeting(0, 0, 0);
        due("those that are no marks", x.trace(), 0);
    }
}
