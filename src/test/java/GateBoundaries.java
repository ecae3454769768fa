import java.util.function.Supplier;

/** Promises 22 to 24: what is measured at the gates. */
final class GateBoundaries extends Boundary {
    private static final int ALL_ELBOWS = 1023;

    private GateBoundaries() {
    }

    static void all() {
        gateInches();
        gateHowMuch();
        gateSixAtMost();
        gateBadAheadOfFull();
        forgetHowMuch();
        forgetNothingWas();
        fitsUnmeasured();
        fitsByTheError();
        fitsWithoutError();
        fitsByTheGreatestError();
        fitsLeastAndGreatestElbow();
        fitsAllThatWasMeasured();
        fitsWhatIsMeasuredOfHim();
        fitsWhateverHisElbowIs();
        fitsBad();
        nothingIsChanged();
    }

    // ---- gate

    private static void gateInches() {
        sentence(22, "a PERSON was measured: m (0 .. 40 inches) ... BAD");
        range("m", 0, 40, (x, m) -> x.gate(0, m));
        range("person", 0, 3, (x, p) -> x.gate(p, 9));
        due("nobody is there", Checks.told("").gate(0, 9), BAD);
        due("the fifth", Checks.told(times(5, "p0 0;")).gate(4, 9), 1);
        due("a sixth", Checks.told(times(5, "p0 0;")).gate(5, 9), BAD);
    }

    private static void gateHowMuch() {
        sentence(22, "GATE: how much was measured.");
        ElbowRanks x = Checks.told("p0 0;p0 0;");
        due("one", x.gate(0, 4), 1);
        due("the same again", x.gate(0, 4), 2);
        due("of another", x.gate(1, 4), 3);
        due("count", x.count(5), 3);
    }

    private static void gateSixAtMost() {
        sentence(22, "GATE (6 at most) ... FULL");
        ElbowRanks x = Checks.told("p0 0;p0 0;");
        for (int many = 1; many <= 6; many++) {
            due("measured " + many, x.gate(many % 2, 4), many);
        }
        due("a seventh", x.gate(0, 4), FULL);
        due("a seventh of another", x.gate(1, 4), FULL);
        due("six", x.count(5), 6);
        due("a seventh that would not fit", x.gate(0, 40), FULL);
        due("all fits still", x.fits(0), 1);
        x.forget();
        due("there is room again", x.gate(0, 4), 1);
        ElbowRanks y = Checks.told("p0 0;");
        for (int many = 1; many <= 6; many++) {
            due("measured of one alone " + many, y.gate(0, 4), many);
        }
        due("a seventh of one alone", y.gate(0, 4), FULL);
    }

    private static void gateBadAheadOfFull() {
        sentence(22, "the first of these: BAD ... FULL");
        ElbowRanks x = Checks.told("p0 0;");
        for (int many = 1; many <= 6; many++) {
            x.gate(0, 4);
        }
        due("41 inches", x.gate(0, 41), BAD);
        due("-1 inches", x.gate(0, -1), BAD);
        due("nobody", x.gate(1, 4), BAD);
        due("40 inches", x.gate(0, 40), FULL);
    }

    // ---- forget

    private static void forgetHowMuch() {
        sentence(23, "Nothing was measured: how much was.");
        ElbowRanks x = Checks.told("p0 0;");
        due("none", x.forget(), 0);
        for (int most = 1; most <= 6; most++) {
            for (int many = 0; many < most; many++) {
                x.gate(0, 4);
            }
            due("measured " + most, x.forget(), most);
            due("none then", x.forget(), 0);
            due("count then", x.count(5), 0);
        }
    }

    private static void forgetNothingWas() {
        sentence(23, "Nothing was measured");
        ElbowRanks x = Checks.told("p0 0;");
        x.gate(0, 40);
        due("nothing fits", x.fits(0), 0);
        due("padded", x.now(3), 1);
        x.forget();
        due("all fits", x.fits(0), ALL_ELBOWS);
        due("not padded", x.now(3), 0);
        x.gate(0, 4);
        due("only what is measured since", x.fits(0), 1);
        due("none may be undone of it", x.undo(), STATE);
        // Else it is as it was.
        changesNothing("measured again", Boundary::busy, y -> {
            y.forget();
            y.gate(1, 10);
            y.gate(2, 40);
        });
    }

    // ---- fits

    private static void fitsUnmeasured() {
        sentence(24, "ELBOWS (bits 0 .. 9) by which all that was measured of him is so", "nothing was");
        due("nothing measured", Checks.told("p0 0;").fits(0), ALL_ELBOWS);
        ElbowRanks x = Checks.told("p0 0;p0 0;");
        x.gate(1, 40);
        due("nothing measured of him", x.fits(0), ALL_ELBOWS);
        due("of the other", x.fits(1), 0);
    }

    private static void fits(String text, int inches, int elbows) {
        ElbowRanks x = Checks.told(text);
        x.gate(0, inches);
        due(inches + " inches of " + text, x.fits(0), elbows);
    }

    private static void fitsByTheError() {
        sentence(24, "he is as WIDE, or by ERROR more or less at most");
        // 4 inches by an ELBOW of 0, 6 by 1, 8 by 2; an inch more or less.
        fits("p0 0;", 2, 0);
        fits("p0 0;", 3, 1);
        fits("p0 0;", 4, 1);
        fits("p0 0;", 5, 1 + 2);
        fits("p0 0;", 6, 2);
        fits("p0 0;", 7, 2 + 4);
        fits("p0 0;e2;", 6, 1 + 2 + 4);
        fits("p0 0;e2;", 7, 2 + 4);
        fits("p0 0;e2;", 2, 1);
        fits("p0 0;e2;", 1, 0);
    }

    private static void fitsWithoutError() {
        sentence(24, "ERROR (0 .. 3 inches", "of 0");
        fits("p0 0;e0;", 3, 0);
        fits("p0 0;e0;", 4, 1);
        fits("p0 0;e0;", 5, 0);
        fits("p0 0;e0;", 22, 512);
        fits("p0 0;e0;b1;", 0, 0);
        fits("p0 0;e0;b1;", 1, 1);
        fits("p0 0;e0;b9;", 27, 512);
    }

    private static void fitsByTheGreatestError() {
        sentence(24, "ERROR (0 .. 3 inches", "of 3");
        fits("p0 0;e3;", 0, 0);
        fits("p0 0;e3;", 1, 1);
        fits("p0 0;e3;", 7, 1 + 2 + 4 + 8);
        fits("p0 0;e3;", 8, 2 + 4 + 8);
        fits("p0 0;e3;", 25, 512);
        fits("p0 0;e3;", 26, 0);
        fits("p0 0;e3;b1;", 0, 1 + 2);
        fits("p0 0;e3;b9;", 30, 512);
        fits("p0 0;e3;b9;", 31, 0);
    }

    private static void fitsLeastAndGreatestElbow() {
        sentence(24, "ELBOWS (bits 0 .. 9)");
        for (int elbow = 0; elbow <= 9; elbow++) {
            fits("p0 0;e0;", 4 + 2 * elbow, 1 << elbow);
        }
        // Elbows of 10 and of -1 are none.
        fits("p0 0;e0;", 24, 0);
        fits("p0 0;e0;", 2, 0);
        fits("p0 0;", 23, 512);
        fits("p0 0;", 24, 0);
        fits("p0 0;", 0, 0);
        fits("p0 0;", 40, 0);
    }

    private static void fitsAllThatWasMeasured() {
        sentence(24, "all that was measured of him is so");
        ElbowRanks x = Checks.told("p0 0;e3;");
        int[] inches = {10, 12, 10, 13, 9, 40};
        // 7 .. 13, 9 .. 15, 7 .. 13, 10 .. 16, 6 .. 12 and 37 .. 43 inches.
        int[] elbows = {4 + 8 + 16, 8 + 16, 8 + 16, 8 + 16, 8 + 16, 0};
        for (int i = 0; i < inches.length; i++) {
            x.gate(0, inches[i]);
            due("measured " + (i + 1), x.fits(0), elbows[i]);
        }
    }

    private static void fitsWhatIsMeasuredOfHim() {
        sentence(24, "all that was measured of him");
        ElbowRanks x = Checks.told(times(5, "p0 0;"));
        for (int p = 0; p < 5; p++) {
            x.gate(p, 4 + 2 * p);
        }
        for (int p = 0; p < 5; p++) {
            due("of " + p, x.fits(p), 1 << p);
        }
    }

    private static void fitsWhateverHisElbowIs() {
        sentence(24, "FITS of a PERSON: ELBOWS", "whatever his is");
        ElbowRanks x = Checks.told("p0 0;");
        x.gate(0, 4);
        x.patents(0, 9);
        due("a patent changes nothing of it", x.fits(0), 1);
        due("he is padded", x.now(3), 1);
        x.undo();
        due("as it was", x.now(3), 0);
    }

    private static void fitsBad() {
        sentence(24, "FITS, as bits. BAD.");
        range("person", 0, 3, (x, p) -> x.fits(p));
        due("nobody is there", Checks.told("").fits(0), BAD);
        due("the fifth", Checks.told(times(5, "p0 0;")).fits(4), ALL_ELBOWS);
        due("a sixth", Checks.told(times(5, "p0 0;")).fits(5), BAD);
    }

    private static void nothingIsChanged() {
        sentence(22, "Refused, and nothing changes");
        stays("of 41 inches", BAD, x -> x.gate(0, 41));
        Supplier<ElbowRanks> full = () -> after(Boundary::busy, x -> {
            for (int many = 3; many <= 6; many++) {
                x.gate(0, 14);
            }
        });
        due("a seventh", full.get().gate(3, 0), FULL);
        changesNothing("a seventh", full, x -> x.gate(3, 0));
        sentence(24, "Nothing is changed");
        stays("fits", 0, x -> x.fits(2));
    }
}
