/** Long runs of calls, made up by a fixed rule, on an object and on a Model of it: their answers are alike. */
public final class ModelTests {
    private static final int RUNS = 1000, CALLS = 512, FAULTS_TOLD = 20;
    private static final int CALL_KINDS = 29, CALLS_OF_MARK = 2, CALLS_OF_ALL = 79;
    private static final int[] EXTREMES = {-1, -2, 5, 6, 8, 10, 11, 41, 100, 256, Integer.MIN_VALUE, Integer.MAX_VALUE};

    private long seed = 20261119;
    private ElbowRanks x;
    private Model model;
    private String run = "";
    // Behind its 512th call nothing is promised of an object.
    private int left = CALLS;

    public static void main(String[] args) {
        ModelTests tests = new ModelTests();
        for (int i = 0; i < RUNS && Checks.wrongs() < FAULTS_TOLD; i++) {
            tests.run(i);
        }
        for (int i = 0; i < RUNS * 20 && Checks.wrongs() < FAULTS_TOLD; i++) {
            tests.readOnly(i);
        }
        Checks.end();
    }

    /** The same numbers in every session. */
    private int any(int below) {
        seed = seed * 6364136223846793005L + 1442695040888963407L;
        return (int) ((seed >>> 33) % below);
    }

    private boolean isOneIn(int many) {
        return any(many) == 0;
    }

    private void run(int number) {
        Checks.part("run " + number);
        x = new ElbowRanks();
        model = new Model();
        left = CALLS;
        tell(any(6) == 0 ? spoilt(text()) : text());
        while (left >= CALLS_OF_MARK) {
            if (isOneIn(100)) {
                tellIfItFits(isOneIn(2) ? spoilt(text()) : text());
            } else {
                ask(any(left < CALLS_OF_ALL ? CALL_KINDS - 1 : CALL_KINDS));
            }
        }
    }

    private void readOnly(int number) {
        Checks.part("reading " + number);
        x = new ElbowRanks();
        model = new Model();
        tell(isOneIn(4) ? text() : spoilt(text()));
        for (int what = 0; what < 8; what++) {
            Checks.due("count " + what + " of " + run, x.count(what), model.count(what));
        }
        Checks.due("ELBOWS of " + run, x.now(2), model.now(2));
    }

    private void tellIfItFits(String text) {
        if (text.length() + 2 <= left) {
            tell(text);
        }
    }

    private void tell(String text) {
        run = text;
        left -= text.length() + 2;
        Checks.due("clear", x.clear(), model.clear());
        for (int i = 0; i < text.length(); i++) {
            Checks.due("type " + i + " of " + text, x.type(text.charAt(i)), model.type(text.charAt(i)));
        }
        Checks.due("capital of " + text, x.capital(), model.capital());
    }

    private String text() {
        StringBuilder text = new StringBuilder();
        int places = 2;
        blanks(text);
        if (!isOneIn(5)) {
            places = 2 + any(isOneIn(2) ? 7 : 4);
            item(text, 'n', places);
        }
        int lanes = any(9);
        int people = any(10) < 2 ? any(6) : 2 + any(4);
        boolean isBodyTold = isOneIn(2);
        boolean isErrorTold = isOneIn(2);
        int widest = isOneIn(2) ? 40 : 20;
        while (lanes + people > 0) {
            if (isBodyTold && isOneIn(4)) {
                item(text, 'b', 1 + any(9));
                isBodyTold = false;
            }
            if (isErrorTold && isOneIn(4)) {
                item(text, 'e', any(4));
                isErrorTold = false;
            }
            if (lanes > 0 && (people == 0 || isOneIn(2))) {
                int a = any(places);
                item(text, 'l', a, (a + 1 + any(places - 1)) % places, 1 + any(widest));
                lanes--;
            } else if (people > 0) {
                item(text, 'p', any(10), any(places));
                people--;
            }
        }
        return text.toString();
    }

    private void item(StringBuilder text, char name, int... numbers) {
        text.append(name);
        for (int i = 0; i < numbers.length; i++) {
            if (i > 0) {
                text.append(' ');
            }
            blanks(text);
            text.append(numbers[i]);
        }
        blanks(text);
        text.append(';');
        blanks(text);
    }

    private void blanks(StringBuilder text) {
        while (isOneIn(12)) {
            text.append(' ');
        }
    }

    private String spoilt(String text) {
        StringBuilder spoilt = new StringBuilder(text);
        for (int times = 1 + any(2); times > 0; times--) {
            int at = any(spoilt.length() + 1);
            String signs = "nlpbe;0123456789 0 1;ab;x-" + (char) any(256);
            char sign = signs.charAt(any(signs.length()));
            int how = any(4);
            if (how == 0) {
                spoilt.insert(at, sign);
            } else if (how == 1 && at < spoilt.length()) {
                spoilt.setCharAt(at, sign);
            } else if (how == 2 && at < spoilt.length()) {
                spoilt.deleteCharAt(at);
            } else if (isOneIn(2)) {
                spoilt.setLength(at);
            } else {
                spoilt.append("b3;e2;n4;l0 1 3;p3 0;", 0, any(22));
            }
        }
        return spoilt.toString();
    }

    /** A number below this one, now and then another. */
    private int some(int below) {
        return isOneIn(40) ? EXTREMES[any(EXTREMES.length)] : any(Math.max(1, below));
    }

    private int somePerson() {
        return some(model.count(2));
    }

    private int someLane() {
        return some(model.count(1));
    }

    private int somePlace() {
        return some(model.count(0));
    }

    /** One who is another one, mostly. */
    private int someOther(int p) {
        int people = model.count(2);
        return people > 1 && p >= 0 && p < people && !isOneIn(30) ? (p + 1 + any(people - 1)) % people : somePerson();
    }

    private void ask(int kind) {
        int p = somePerson();
        int q = someOther(p);
        int l = someLane();
        int to = somePlace();
        int i = some(9);
        switch (kind) {
            case 0 -> due("lane", x.lane(l, i % 5), model.lane(l, i % 5), l, i % 5);
            case 1 -> due("person", x.person(p, i % 6), model.person(p, i % 6), p, i % 6);
            case 2, 3 -> due("goes", x.goes(p, l), model.goes(p, l), p, l);
            case 4, 5, 6 -> meets(p, q, l);
            case 7 -> due("claims", x.claims(p, q), model.claims(p, q), p, q);
            case 8 -> due("patents", x.patents(p, i), model.patents(p, i), p, i);
            case 9 -> shuts(l, isOneIn(3) ? 1 : some(2));
            case 10 -> due("undo", x.undo(), model.undo());
            case 11 -> due("now", x.now(i % 5), model.now(i % 5), i % 5);
            case 12, 13 -> due("way", x.way(p, to, i - 1), model.way(p, to, i - 1), p, to, i - 1);
            case 14 -> due("way", x.way(p, to, -1), model.way(p, to, -1), p, to, -1);
            case 15 -> due("lacks", x.lacks(p, to), model.lacks(p, to), p, to);
            case 16 -> due("must", x.must(p, to), model.must(p, to), p, to);
            case 17 -> odds(p, to, some(11), some(2));
            case 18 -> due("meeting", x.meeting(p, q, l), model.meeting(p, q, l), p, q, l);
            case 19 -> theatre(isOneIn(3) ? 1 + any(99) : 4 + some(40), isOneIn(3) ? -1 : p);
            case 20 -> due("narrow", x.narrow(l), model.narrow(l), l);
            case 21 -> due("order", x.order(p), model.order(p), p);
            case 22 -> gate(p, isOneIn(3) ? some(41) : model.person(p, 2) + any(5) - 2);
            case 23 -> due("fits", x.fits(p), model.fits(p), p);
            case 24 -> mark(some(6), p);
            case 25 -> due("trace", x.trace(), model.trace());
            case 26 -> due("keep", x.keep(i / 3), model.keep(i / 3), i / 3);
            case 27 -> seldom(i);
            default -> all();
        }
    }

    private void meets(int p, int q, int l) {
        due("meets", x.meets(p, q, l), model.meets(p, q, l), p, q, l);
    }

    private void shuts(int l, int is) {
        due("shuts", x.shuts(l, is), model.shuts(l, is), l, is);
    }

    private void odds(int p, int to, int tenths, int what) {
        due("odds", x.odds(p, to, tenths, what), model.odds(p, to, tenths, what), p, to, tenths, what);
    }

    private void theatre(int w, int p) {
        due("theatre", x.theatre(w, p), model.theatre(w, p), w, p);
    }

    private void gate(int p, int m) {
        due("gate", x.gate(p, m), model.gate(p, m), p, m);
    }

    private void mark(int kind, int p) {
        due("mark", x.mark(kind, p), model.mark(kind, p), kind, p);
        due("trace", x.trace(), model.trace());
    }

    private void seldom(int i) {
        if (isOneIn(8)) {
            due("forget", x.forget(), model.forget());
        } else if (isOneIn(10)) {
            int c = some(256);
            due("type", x.type(c), model.type(c), c);
        } else {
            due("back", x.back(i / 4), model.back(i / 4), i / 4);
        }
    }

    /** All that shows how it is. */
    private void all() {
        for (int what = -1; what < 9; what++) {
            due("count", x.count(what), model.count(what), what);
            due("now", x.now(what), model.now(what), what);
        }
        for (int l = -1; l < 9; l++) {
            due("lane", x.lane(l, 3), model.lane(l, 3), l, 3);
        }
        for (int p = -1; p < 6; p++) {
            for (int what = -1; what < 6; what++) {
                due("person", x.person(p, what), model.person(p, what), p, what);
            }
        }
    }

    private void due(String call, long got, long want, int... with) {
        left--;
        StringBuilder said = new StringBuilder(call).append('(');
        for (int i = 0; i < with.length; i++) {
            said.append(i == 0 ? "" : ", ").append(with[i]);
        }
        Checks.due(said.append(") told ").append(run).toString(), got, want);
    }
}
