import java.util.Arrays;
import java.util.TreeSet;
import java.util.function.Consumer;
import java.util.function.Supplier;

/** What the tests of single sentences share. */
abstract class Boundary {
    static final int BAD = -1, STATE = -2, FULL = -3, NONE = -9, NO = -1000000;
    static final int LOW = Integer.MIN_VALUE, HIGH = Integer.MAX_VALUE;

    private static final int PROMISES = 29;
    private static final TreeSet<Integer> NAMED = new TreeSet<>();
    private static final TreeSet<String> QUOTED = new TreeSet<>();

    /** A call with all its numbers. */
    interface Call {
        int on(ElbowRanks x);
    }

    /** A call that still wants one of its numbers. */
    interface NumberCall {
        int on(ElbowRanks x, int number);
    }

    static void due(String what, long got, long want) {
        Checks.due(what, got, want);
    }

    /** The checks from here on are of these words of the document (... leaves some out), for this promise. */
    static void sentence(int promise, String words) {
        NAMED.add(promise);
        QUOTED.addAll(Arrays.asList(words.split(" [.]{3} ")));
        Checks.part("Promise " + promise + ", \"" + words + "\"");
    }

    /** The same for one case that the words name. */
    static void sentence(int promise, String words, String oneCase) {
        sentence(promise, words);
        Checks.part("Promise " + promise + ", \"" + words + "\", " + oneCase);
    }

    static void allPromisesAreNamed() {
        Checks.part("all promises");
        for (int promise = 1; promise <= PROMISES; promise++) {
            Checks.holds("promise " + promise + " has a sentence with a test", NAMED.contains(promise));
        }
    }

    /** Where the document was worded anew, the tests of the sentence want another look. */
    static void allWordsStandIn(String document) {
        Checks.part("the document");
        String plain = document.replace("`", "").replaceAll("\\s+", " ");
        for (String words : QUOTED) {
            Checks.holds("\"" + words + "\" stands there", plain.contains(words));
        }
    }

    /** All that a capital can hold: something is done, measured, kept, marked and typed. */
    static ElbowRanks busy() {
        ElbowRanks x = Checks.told("n3;l0 1 14;l1 2 25;l0 1 13;p5 0;p3 1;p5 1;p0 2;");
        x.shuts(2, 1);
        x.patents(3, 1);
        x.goes(1, 1);
        x.keep(0);
        x.claims(1, 3);
        x.meets(2, 1, 1);
        x.gate(1, 10);
        x.gate(2, 40);
        x.mark(1, 0);
        Checks.type(x, "b3");
        return x;
    }

    /** This call on the busy capital is answered so, and all stays as it is. */
    static void stays(String call, int answer, Call asked) {
        due(call, asked.on(busy()), answer);
        changesNothing(call, Boundary::busy, x -> asked.on(x));
    }

    /** The numbers from the least to the greatest are taken; others are BAD, and change nothing. */
    static void range(String which, int least, int greatest, NumberCall call) {
        range(which, least, greatest, BAD, Boundary::busy, call);
    }

    static void range(String which, int least, int greatest, int bad, Supplier<ElbowRanks> made, NumberCall call) {
        for (int number = least; number <= greatest; number++) {
            Checks.holds(which + " " + number + " is taken", call.on(made.get(), number) != bad);
        }
        // Numbers that a shift, a byte, a short or a change of sign would take for those that are taken.
        int[] others = {LOW, LOW + least, LOW + greatest, -greatest, least - 2, least - 1, greatest + 1, greatest + 2,
            least + 32, least + 64, least + 256, least + 65536, HIGH};
        for (int number : others) {
            if (number < least || number > greatest) {
                due(which + " " + number, call.on(made.get(), number), bad);
                changesNothing(which + " " + number, made, x -> call.on(x, number));
            }
        }
    }

    /**
     * With these calls and without them all answers are alike, whatever is undone, taken back or read then.
     * Each way is gone by objects of its own: none is used for more than 512 calls.
     */
    static void changesNothing(String calls, Supplier<ElbowRanks> made, Consumer<ElbowRanks> done) {
        ElbowRanks x = after(made, done);
        ElbowRanks y = made.get();
        sameAll(calls, x, y);
        sameSteps(calls + ", then", x, y);
        for (int image = 0; image < 2; image++) {
            String back = calls + ", then back " + image;
            x = doOthers(after(made, done));
            y = doOthers(made.get());
            due(back, x.back(image), y.back(image));
            sameMoment(back, x, y);
            sameSteps(back, x, y);
        }
        x = after(made, done);
        y = made.get();
        for (int round = 0; round < 2; round++) {
            due(calls + ", then read", x.capital(), y.capital());
            sameAll(calls + ", then read", x, y);
            due(calls + ", then ended", x.type(';'), y.type(';'));
        }
    }

    static ElbowRanks after(Supplier<ElbowRanks> made, Consumer<ElbowRanks> done) {
        ElbowRanks x = made.get();
        done.accept(x);
        return x;
    }

    private static void sameSteps(String after, ElbowRanks x, ElbowRanks y) {
        int left = 0;
        for (int step = 0; step <= 10 && left != STATE; step++) {
            left = y.undo();
            due(after + " undone", x.undo(), left);
            sameMoment(after + " undone", x, y);
        }
    }

    /** Ten deeds and more, if anybody is there: none of before can be undone then. */
    private static ElbowRanks doOthers(ElbowRanks x) {
        for (int i = 0; i <= 10; i++) {
            x.patents(0, i % 2);
        }
        return x;
    }

    private static void sameMoment(String after, ElbowRanks x, ElbowRanks y) {
        due(after + ": closed", x.now(0), y.now(0));
        int people = y.count(2);
        for (int p = 0; p < people; p++) {
            due(after + ": elbow of " + p, x.person(p, 0), y.person(p, 0));
            due(after + ": where " + p + " is", x.person(p, 1), y.person(p, 1));
            due(after + ": how often " + p + " gave way", x.person(p, 3), y.person(p, 3));
        }
    }

    private static void sameAll(String after, ElbowRanks x, ElbowRanks y) {
        sameMoment(after, x, y);
        for (int what = 0; what < 8; what++) {
            due(after + ": count " + what, x.count(what), y.count(what));
        }
        int lanes = y.count(1);
        for (int l = 0; l < lanes; l++) {
            for (int what = 0; what < 4; what++) {
                due(after + ": lane " + l + " " + what, x.lane(l, what), y.lane(l, what));
            }
        }
        int people = y.count(2);
        for (int p = 0; p < people; p++) {
            due(after + ": wide " + p, x.person(p, 2), y.person(p, 2));
            due(after + ": fits " + p, x.fits(p), y.fits(p));
        }
        due(after + ": trace", x.trace(), y.trace());
    }

    /** What count() answers to 0, 1, 2 .. */
    static void counts(String when, ElbowRanks x, int... due) {
        for (int what = 0; what < due.length; what++) {
            due(when + ": count " + what, x.count(what), due[what]);
        }
    }

    static String times(int many, String text) {
        return text.repeat(many);
    }

    static String blanks(int many) {
        char[] blanks = new char[many];
        Arrays.fill(blanks, (char) 32);
        return new String(blanks);
    }
}
