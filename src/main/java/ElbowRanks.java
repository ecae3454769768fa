/** A small capital where one's rank is how far one's elbows may stand out; ../shared/DOC.md says what each call does. */
public final class ElbowRanks {
    public static final int BAD = -1, STATE = -2, FULL = -3, NONE = -9;
    public static final int NO = -1000000;

    private static final int MOST_BYTES = 150;
    private static final int FIRST_PLACES = 2, MOST_PLACES = 8;
    private static final int MOST_LANES = 8, WIDEST_LANE = 40;
    private static final int MOST_PEOPLE = 5, GREATEST_ELBOW = 9;
    private static final int FIRST_BODY = 4, GREATEST_BODY = 9;
    private static final int FIRST_ERROR = 1, GREATEST_ERROR = 3;
    private static final int MOST_UNDONE = 10;
    private static final int WIDEST_ROW = 99;
    private static final int MOST_MEASURED = 6, GREATEST_MEASURE = 40;
    private static final int IMAGES = 2;
    private static final int TENTHS = 10;

    // What comes of a meeting.
    private static final int BOTH_PASS = 0, FIRST_PASSES = 1, SECOND_PASSES = 2;
    private static final int NONE_PASSES = 3, ONE_IS_WIDER = 4, IT_IS_CLOSED = 5;

    private static final int PERSON = 0, EARL = 1, PAGE = 2, BRIDE = 3, TAILOR = 4, THIEF = 5;

    private final Reader reader = new Reader();
    private Told told = new Told();
    // Filled while a text is read, so that a faulty one changes nothing.
    private Told draft = new Told();
    private final Course course = new Course();
    private final Course[] images = new Course[IMAGES];
    private final boolean[] kept = new boolean[IMAGES];
    private final Gates gates = new Gates();
    private final Distances distances = new Distances();
    private final Theatre rows = new Theatre();
    private long traced = 0;

    public ElbowRanks() {
        for (int image = 0; image < IMAGES; image++) {
            images[image] = new Course();
        }
    }

    // ---- the capital

    public int type(int c) {
        if (c < 0 || c > 255) {
            return BAD;
        }
        return reader.text.add(c) ? reader.text.size : FULL;
    }

    public int clear() {
        int had = reader.text.size;
        reader.text.size = 0;
        return had;
    }

    public int capital() {
        int items = reader.read(draft);
        if (items < 0) {
            return -10 - reader.start;
        }
        Told before = told;
        told = draft;
        draft = before;
        reader.text.size = 0;
        course.begin(told);
        gates.count = 0;
        for (int image = 0; image < IMAGES; image++) {
            kept[image] = false;
        }
        return items;
    }

    public int lane(int l, int what) {
        if (noLane(l)) {
            return BAD;
        }
        switch (what) {
            case 0: return told.first[l];
            case 1: return told.second[l];
            case 2: return told.width[l];
            case 3: return isClosed(l) ? 1 : 0;
            default: return BAD;
        }
    }

    public int person(int p, int what) {
        if (noPerson(p)) {
            return BAD;
        }
        switch (what) {
            case 0: return course.now.elbow[p];
            case 1: return course.now.at[p];
            case 2: return wideness(p);
            case 3: return course.now.gaveWay[p];
            case 4: return reach(p);
            default: return BAD;
        }
    }

    // ---- what is done

    public int goes(int p, int l) {
        if (noPerson(p) || noLane(l)) {
            return BAD;
        }
        if (!isAtEnd(p, l) || isClosed(l) || isTooNarrow(l, p)) {
            return STATE;
        }
        course.remember();
        cross(p, l);
        return course.now.at[p];
    }

    public int meets(int p, int q, int l) {
        if (noPerson(p) || noPerson(q) || p == q || noLane(l)) {
            return BAD;
        }
        int outcome = outcome(p, q, l);
        if (outcome > NONE_PASSES || !areAtBothEnds(p, q, l)) {
            return STATE;
        }
        course.remember();
        if (outcome == NONE_PASSES) {
            course.now.close(l);
        } else {
            moveOrYield(p, l, outcome != SECOND_PASSES);
            moveOrYield(q, l, outcome != FIRST_PASSES);
        }
        return outcome;
    }

    public int claims(int p, int q) {
        if (noPerson(p) || noPerson(q) || p == q) {
            return BAD;
        }
        int[] elbow = course.now.elbow;
        if (course.now.at[p] != course.now.at[q] || elbow[p] <= elbow[q]
                || elbow[p] >= GREATEST_ELBOW || elbow[q] <= 0) {
            return STATE;
        }
        course.remember();
        elbow[p]++;
        elbow[q]--;
        return elbow[p];
    }

    public int patents(int p, int e) {
        if (noPerson(p) || e < 0 || e > GREATEST_ELBOW) {
            return BAD;
        }
        int was = course.now.elbow[p];
        if (was == e) {
            return STATE;
        }
        course.remember();
        course.now.elbow[p] = e;
        return was;
    }

    public int shuts(int l, int is) {
        if (noLane(l) || is < 0 || is > 1) {
            return BAD;
        }
        if (isClosed(l) == (is == 1)) {
            return STATE;
        }
        course.remember();
        if (is == 1) {
            course.now.close(l);
        } else {
            course.now.open(l);
        }
        return closedLanes();
    }

    public int undo() {
        return course.stepBack() ? course.known : STATE;
    }

    public int now(int what) {
        switch (what) {
            case 0: return course.now.closed;
            case 1: return sum(course.now.gaveWay);
            case 2: return sum(course.now.elbow);
            case 3: return padded();
            default: return BAD;
        }
    }

    // ---- ways

    public int way(int p, int to, int i) {
        if (noPerson(p) || noPlace(to) || i < -1) {
            return BAD;
        }
        distances.countLanes(told, to, passable(p));
        int from = course.now.at[p];
        int lanes = distances.from(from);
        if (lanes == NONE || i == -1) {
            return lanes;
        }
        return i < lanes ? distances.laneOfWay(told, from, i) : NONE;
    }

    public int lacks(int p, int to) {
        if (noPerson(p) || noPlace(to)) {
            return BAD;
        }
        distances.addLacks(told, to, openLanes(), wideness(p));
        return distances.from(course.now.at[p]);
    }

    public int must(int p, int to) {
        if (noPerson(p) || noPlace(to)) {
            return BAD;
        }
        int from = course.now.at[p];
        int lanes = passable(p);
        if (!told.joins(lanes, from, to)) {
            return 0;
        }
        int needed = 0;
        for (int l = 0; l < told.lanes; l++) {
            if (!told.joins(lanes & ~(1 << l), from, to)) {
                needed |= 1 << l;
            }
        }
        return needed;
    }

    public int odds(int p, int to, int x, int what) {
        if (noPerson(p) || noPlace(to) || x < 0 || x > TENTHS || what < 0 || what > 1) {
            return BAD;
        }
        int lanes = passable(p);
        int exponent = Integer.bitCount(lanes);
        int upper = favourable(lanes, course.now.at[p], to, x);
        int lower = power(TENTHS, exponent);
        // The lower number is a power of ten: 2 and 5 are all that can be common to both.
        for (int i = 0; i < exponent; i++) {
            if (upper % 2 == 0 && lower % 2 == 0) {
                upper /= 2;
                lower /= 2;
            }
            if (upper % 5 == 0 && lower % 5 == 0) {
                upper /= 5;
                lower /= 5;
            }
        }
        return what == 0 ? upper : lower;
    }

    // ---- crowds

    public int meeting(int p, int q, int l) {
        if (noPerson(p) || noPerson(q) || p == q || noLane(l)) {
            return BAD;
        }
        return outcome(p, q, l);
    }

    public int theatre(int w, int p) {
        if (w < 1 || w > WIDEST_ROW || (p != -1 && noPerson(p))) {
            return BAD;
        }
        rows.begin(w, told.people);
        for (int q = 0; q < told.people; q++) {
            rows.admit(q, wideness(q));
        }
        int needed = rows.fill();
        return needed == NONE || p == -1 ? needed : rows.row[p];
    }

    public int narrow(int l) {
        if (noLane(l)) {
            return BAD;
        }
        int best = NONE;
        for (int chosen = 0; chosen < 1 << told.people; chosen++) {
            boolean isFewer = best == NONE || Integer.bitCount(chosen) < Integer.bitCount(best);
            if (isFewer && widenessWithout(chosen) <= told.width[l]) {
                best = chosen;
            }
        }
        return best;
    }

    public int order(int i) {
        if (noPerson(i)) {
            return BAD;
        }
        int found = BAD;
        for (int p = 0; p < told.people; p++) {
            if (peopleAhead(p) == i) {
                found = p;
            }
        }
        return found;
    }

    // ---- gates

    public int gate(int p, int m) {
        if (noPerson(p) || m < 0 || m > GREATEST_MEASURE) {
            return BAD;
        }
        return gates.add(p, m) ? gates.count : FULL;
    }

    public int forget() {
        int had = gates.count;
        gates.count = 0;
        return had;
    }

    public int fits(int p) {
        return noPerson(p) ? BAD : fitting(p);
    }

    // ---- kinds, images

    public int mark(int kind, int p) {
        if (noPerson(p)) {
            return NO;
        }
        switch (kind) {
            case PERSON: return markPerson(p);
            case EARL: return markEarl(p);
            case PAGE: return markPage(p);
            case BRIDE: return markBride(p);
            case TAILOR: return markTailor(p);
            case THIEF: return markThief(p);
            default: return NO;
        }
    }

    public int keep(int image) {
        if (image < 0 || image >= IMAGES) {
            return BAD;
        }
        images[image].copy(course);
        kept[image] = true;
        return closedLanes();
    }

    public int back(int image) {
        if (image < 0 || image >= IMAGES) {
            return BAD;
        }
        if (!kept[image]) {
            return STATE;
        }
        course.copy(images[image]);
        return closedLanes();
    }

    public int count(int what) {
        switch (what) {
            case 0: return told.places;
            case 1: return told.lanes;
            case 2: return told.people;
            case 3: return told.body;
            case 4: return told.error;
            case 5: return gates.count;
            case 6: return course.known;
            case 7: return reader.text.size;
            default: return BAD;
        }
    }

    public long trace() {
        return traced;
    }

    // ---- what there is

    private boolean noPlace(int place) {
        return place < 0 || place >= told.places;
    }

    private boolean noLane(int l) {
        return l < 0 || l >= told.lanes;
    }

    private boolean noPerson(int p) {
        return p < 0 || p >= told.people;
    }

    private int wideness(int p) {
        return told.body + 2 * course.now.elbow[p];
    }

    private boolean isClosed(int l) {
        return (course.now.closed >> l & 1) != 0;
    }

    private boolean isTooNarrow(int l, int p) {
        return wideness(p) > told.width[l];
    }

    private boolean isAtEnd(int p, int l) {
        int at = course.now.at[p];
        return at == told.first[l] || at == told.second[l];
    }

    private boolean areAtBothEnds(int p, int q, int l) {
        return isAtEnd(p, l) && isAtEnd(q, l) && course.now.at[p] != course.now.at[q];
    }

    private int closedLanes() {
        return Integer.bitCount(course.now.closed);
    }

    private int openLanes() {
        return ((1 << told.lanes) - 1) & ~course.now.closed;
    }

    /** Bits of the LANES by which a PERSON can GO. */
    private int passable(int p) {
        int lanes = openLanes();
        for (int l = 0; l < told.lanes; l++) {
            if (isTooNarrow(l, p)) {
                lanes &= ~(1 << l);
            }
        }
        return lanes;
    }

    private int reach(int p) {
        return told.joined(passable(p), course.now.at[p]);
    }

    private int sum(int[] ofPeople) {
        int all = 0;
        for (int p = 0; p < told.people; p++) {
            all += ofPeople[p];
        }
        return all;
    }

    // ---- meetings

    private int outcome(int p, int q, int l) {
        if (isClosed(l)) {
            return IT_IS_CLOSED;
        }
        if (isTooNarrow(l, p) || isTooNarrow(l, q)) {
            return ONE_IS_WIDER;
        }
        if (wideness(p) + wideness(q) <= told.width[l]) {
            return BOTH_PASS;
        }
        int difference = course.now.elbow[p] - course.now.elbow[q];
        if (difference == 0) {
            return NONE_PASSES;
        }
        return difference > 0 ? FIRST_PASSES : SECOND_PASSES;
    }

    private void cross(int p, int l) {
        int[] at = course.now.at;
        at[p] = at[p] == told.first[l] ? told.second[l] : told.first[l];
    }

    private void moveOrYield(int p, int l, boolean moves) {
        if (moves) {
            cross(p, l);
        } else {
            course.now.gaveWay[p]++;
        }
    }

    // ---- odds

    /** How many of 10 to the number of these LANES cases let him come there. */
    private int favourable(int lanes, int from, int to, int x) {
        int all = 0;
        for (int open = 0; open < 1 << told.lanes; open++) {
            if ((open & ~lanes) == 0 && told.joins(open, from, to)) {
                int stayOpen = Integer.bitCount(open);
                int areShut = Integer.bitCount(lanes) - stayOpen;
                all += power(TENTHS - x, stayOpen) * power(x, areShut);
            }
        }
        return all;
    }

    private static int power(int base, int exponent) {
        int result = 1;
        for (int i = 0; i < exponent; i++) {
            result *= base;
        }
        return result;
    }

    // ---- people side by side

    private int widenessWithout(int narrowed) {
        int all = 0;
        for (int p = 0; p < told.people; p++) {
            all += (narrowed >> p & 1) != 0 ? told.body : wideness(p);
        }
        return all;
    }

    private int peopleAhead(int p) {
        int[] elbow = course.now.elbow;
        int ahead = 0;
        for (int q = 0; q < told.people; q++) {
            if (elbow[q] > elbow[p] || (elbow[q] == elbow[p] && q < p)) {
                ahead++;
            }
        }
        return ahead;
    }

    // ---- what was measured

    /** Bits of the ELBOWS by which all that was measured of a PERSON is so. */
    private int fitting(int p) {
        int elbows = 0;
        for (int e = 0; e <= GREATEST_ELBOW; e++) {
            if (gates.allow(p, told.body + 2 * e, told.error)) {
                elbows |= 1 << e;
            }
        }
        return elbows;
    }

    private int padded() {
        int people = 0;
        for (int p = 0; p < told.people; p++) {
            if ((fitting(p) >> course.now.elbow[p] & 1) == 0) {
                people |= 1 << p;
            }
        }
        return people;
    }

    // ---- marks: each asks the one above it once, and THE TRACE counts who was asked

    private int markPerson(int p) {
        traced += 1;
        return wideness(p);
    }

    private int markEarl(int p) {
        traced += 10;
        return markPerson(p) + Integer.bitCount(reach(p));
    }

    private int markPage(int p) {
        traced += 100;
        return markPerson(p) - p;
    }

    private int markBride(int p) {
        traced += 1000;
        return markEarl(p) * 2;
    }

    private int markTailor(int p) {
        traced += 10000;
        return markPage(p) + course.now.gaveWay[p];
    }

    private int markThief(int p) {
        traced += 100000;
        return markPerson(p) + closedLanes();
    }

    /** The bytes that are to tell the capital. */
    private static final class Text {
        private final int[] bytes = new int[MOST_BYTES];
        private int size = 0;

        boolean add(int c) {
            if (size >= MOST_BYTES) {
                return false;
            }
            bytes[size] = c;
            size++;
            return true;
        }
    }

    /** What a text tells, all that stays so until the next one is read. */
    private static final class Told {
        private int places = FIRST_PLACES;
        private int lanes = 0;
        private final int[] first = new int[MOST_LANES];
        private final int[] second = new int[MOST_LANES];
        private final int[] width = new int[MOST_LANES];
        private int people = 0;
        private final int[] elbow = new int[MOST_PEOPLE];
        private final int[] home = new int[MOST_PEOPLE];
        private int body = FIRST_BODY;
        private int error = FIRST_ERROR;

        void begin() {
            places = FIRST_PLACES;
            lanes = 0;
            people = 0;
            body = FIRST_BODY;
            error = FIRST_ERROR;
        }

        boolean addLane(int a, int b, int inches) {
            if (lanes >= MOST_LANES) {
                return false;
            }
            first[lanes] = a;
            second[lanes] = b;
            width[lanes] = inches;
            lanes++;
            return true;
        }

        boolean addPerson(int inches, int place) {
            if (people >= MOST_PEOPLE) {
                return false;
            }
            elbow[people] = inches;
            home[people] = place;
            people++;
            return true;
        }

        int ends(int l) {
            return 1 << first[l] | 1 << second[l];
        }

        /** Bits of the PLACES that these LANES join to one, itself among them. */
        int joined(int byLanes, int from) {
            int there = 1 << from;
            for (int round = 1; round < places; round++) {
                int before = there;
                for (int l = 0; l < lanes; l++) {
                    if ((byLanes >> l & 1) != 0 && (there & ends(l)) != 0) {
                        there |= ends(l);
                    }
                }
                if (there == before) {
                    return there;
                }
            }
            return there;
        }

        boolean joins(int byLanes, int from, int to) {
            return (joined(byLanes, from) >> to & 1) != 0;
        }
    }

    /** Reads a text, TOKEN by TOKEN. */
    private static final class Reader {
        private static final int END = 0, LETTERS = 1, NUMBER = 2, SEMICOLON = 3, NEITHER = 4;
        private static final int BLANK = 32;

        private final Text text = new Text();
        private int next = 0;
        // The latest TOKEN: where it begins, what it is, and its number or only letter.
        private int start = 0;
        private int sort = END;
        private int value = 0;
        private boolean bodyIsTold = false;
        private boolean errorIsTold = false;

        /** How many ITEMS were read; -1: the latest TOKEN can't stand there, FAULT is its start. */
        int read(Told told) {
            told.begin();
            next = 0;
            bodyIsTold = false;
            errorIsTold = false;
            int items = 0;
            takeToken();
            while (items < MOST_BYTES && sort != END) {
                if (!readItem(told, items == 0)) {
                    return -1;
                }
                takeToken();
                if (sort != SEMICOLON) {
                    return -1;
                }
                items++;
                takeToken();
            }
            return items;
        }

        private boolean readItem(Told told, boolean isFirst) {
            if (sort != LETTERS) {
                return false;
            }
            switch (value) {
                case 'n': return isFirst && readPlaces(told);
                case 'l': return told.lanes < MOST_LANES && readLane(told);
                case 'p': return told.people < MOST_PEOPLE && readPerson(told);
                case 'b': return !bodyIsTold && readBody(told);
                case 'e': return !errorIsTold && readError(told);
                default: return false;
            }
        }

        private boolean readPlaces(Told told) {
            if (!isNumber(FIRST_PLACES, MOST_PLACES)) {
                return false;
            }
            told.places = value;
            return true;
        }

        private boolean readLane(Told told) {
            if (!isNumber(0, told.places - 1)) {
                return false;
            }
            int a = value;
            if (!isNumber(0, told.places - 1) || value == a) {
                return false;
            }
            int b = value;
            return isNumber(1, WIDEST_LANE) && told.addLane(a, b, value);
        }

        private boolean readPerson(Told told) {
            if (!isNumber(0, GREATEST_ELBOW)) {
                return false;
            }
            int elbow = value;
            return isNumber(0, told.places - 1) && told.addPerson(elbow, value);
        }

        private boolean readBody(Told told) {
            if (!isNumber(1, GREATEST_BODY)) {
                return false;
            }
            told.body = value;
            bodyIsTold = true;
            return true;
        }

        private boolean readError(Told told) {
            if (!isNumber(0, GREATEST_ERROR)) {
                return false;
            }
            told.error = value;
            errorIsTold = true;
            return true;
        }

        private boolean isNumber(int least, int greatest) {
            takeToken();
            return sort == NUMBER && value >= least && value <= greatest;
        }

        private void takeToken() {
            next = endOfRun(next, BLANK, BLANK);
            start = next;
            int letters = endOfRun(start, 'a', 'z') - start;
            int digits = endOfRun(start, '0', '9') - start;
            if (start >= text.size) {
                sort = END;
            } else if (letters > 0) {
                // All that begins an ITEM is one letter long.
                sort = letters == 1 ? LETTERS : NEITHER;
                value = text.bytes[start];
                next += letters;
            } else if (digits > 0) {
                takeNumber(digits);
            } else {
                sort = text.bytes[start] == ';' ? SEMICOLON : NEITHER;
                next++;
            }
        }

        private void takeNumber(int digits) {
            boolean isWrong = digits > 2 || (digits == 2 && text.bytes[start] == '0');
            sort = isWrong ? NEITHER : NUMBER;
            value = 0;
            for (int i = 0; i < digits; i++) {
                // Nobody asks for the value of one that is too long.
                value = value * 10 + text.bytes[next] - '0';
                next++;
            }
        }

        /** Where the bytes from one of these to another end that stand side by side from here on. */
        private int endOfRun(int from, int least, int greatest) {
            int end = from;
            while (end < text.size && text.bytes[end] >= least && text.bytes[end] <= greatest) {
                end++;
            }
            return end;
        }
    }

    /** How all is at one time. */
    private static final class Moment {
        private final int[] elbow = new int[MOST_PEOPLE];
        private final int[] at = new int[MOST_PEOPLE];
        private final int[] gaveWay = new int[MOST_PEOPLE];
        private int closed = 0;

        void begin(Told told) {
            for (int p = 0; p < MOST_PEOPLE; p++) {
                elbow[p] = told.elbow[p];
                at[p] = told.home[p];
                gaveWay[p] = 0;
            }
            closed = 0;
        }

        void copy(Moment other) {
            for (int p = 0; p < MOST_PEOPLE; p++) {
                elbow[p] = other.elbow[p];
                at[p] = other.at[p];
                gaveWay[p] = other.gaveWay[p];
            }
            closed = other.closed;
        }

        void close(int l) {
            closed |= 1 << l;
        }

        void open(int l) {
            closed &= ~(1 << l);
        }
    }

    /** NOW, and the moments ahead of what may be UNDONE, the latest behind the others. */
    private static final class Course {
        private final Moment now = new Moment();
        private final Moment[] past = new Moment[MOST_UNDONE];
        private int known = 0;

        Course() {
            for (int i = 0; i < MOST_UNDONE; i++) {
                past[i] = new Moment();
            }
        }

        void begin(Told told) {
            now.begin(told);
            known = 0;
        }

        void remember() {
            if (known >= MOST_UNDONE) {
                loseOldest();
            }
            past[known].copy(now);
            known++;
        }

        private void loseOldest() {
            Moment oldest = past[0];
            for (int i = 1; i < MOST_UNDONE; i++) {
                past[i - 1] = past[i];
            }
            // Its arrays serve again.
            past[MOST_UNDONE - 1] = oldest;
            known = MOST_UNDONE - 1;
        }

        boolean stepBack() {
            if (known <= 0) {
                return false;
            }
            known--;
            now.copy(past[known]);
            return true;
        }

        void copy(Course other) {
            now.copy(other.now);
            for (int i = 0; i < other.known; i++) {
                past[i].copy(other.past[i]);
            }
            known = other.known;
        }
    }

    /** What was measured at the gates. */
    private static final class Gates {
        private final int[] who = new int[MOST_MEASURED];
        private final int[] inches = new int[MOST_MEASURED];
        private int count = 0;

        boolean add(int p, int m) {
            if (count >= MOST_MEASURED) {
                return false;
            }
            who[count] = p;
            inches[count] = m;
            count++;
            return true;
        }

        /** Whether all that was measured of a PERSON is so if he is as wide as this. */
        boolean allow(int p, int wide, int error) {
            for (int i = 0; i < count; i++) {
                if (who[i] == p && Math.abs(inches[i] - wide) > error) {
                    return false;
                }
            }
            return true;
        }
    }

    /** How far it is from every PLACE to one of them. */
    private static final class Distances {
        private static final int FAR = 1000000;

        private final int[] cost = new int[MOST_LANES];
        private final int[] distance = new int[MOST_PLACES];

        /** By how many of these LANES. */
        void countLanes(Told told, int to, int lanes) {
            for (int l = 0; l < told.lanes; l++) {
                cost[l] = (lanes >> l & 1) != 0 ? 1 : FAR;
            }
            measure(told, to);
        }

        /** By how many inches that these LANES lack for one as wide as this. */
        void addLacks(Told told, int to, int lanes, int wide) {
            for (int l = 0; l < told.lanes; l++) {
                cost[l] = (lanes >> l & 1) != 0 ? Math.max(0, wide - told.width[l]) : FAR;
            }
            measure(told, to);
        }

        private void measure(Told told, int to) {
            for (int place = 0; place < told.places; place++) {
                distance[place] = place == to ? 0 : FAR;
            }
            // The shortest way comes to no PLACE twice.
            for (int round = 1; round < told.places; round++) {
                for (int l = 0; l < told.lanes; l++) {
                    int a = told.first[l], b = told.second[l];
                    distance[a] = Math.min(distance[a], distance[b] + cost[l]);
                    distance[b] = Math.min(distance[b], distance[a] + cost[l]);
                }
            }
        }

        int from(int place) {
            return distance[place] >= FAR ? NONE : distance[place];
        }

        /** The i-th LANE of the first of the shortest ways, when LANES were counted. */
        int laneOfWay(Told told, int from, int i) {
            int place = from;
            int lane = NONE;
            for (int step = 0; step <= i && step < told.places; step++) {
                lane = firstLaneNearer(told, place);
                if (lane == NONE) {
                    return NONE;
                }
                place = place == told.first[lane] ? told.second[lane] : told.first[lane];
            }
            return lane;
        }

        private int firstLaneNearer(Told told, int place) {
            for (int l = 0; l < told.lanes; l++) {
                int a = told.first[l], b = told.second[l];
                boolean isHere = place == a || place == b;
                int other = place == a ? b : a;
                if (isHere && cost[l] == 1 && distance[other] == distance[place] - 1) {
                    return l;
                }
            }
            return NONE;
        }
    }

    /** Seats PEOPLE in as few rows as can be. */
    private static final class Theatre {
        private final int[] wide = new int[MOST_PEOPLE];
        private final int[] row = new int[MOST_PEOPLE];
        private final int[] room = new int[MOST_PEOPLE];
        private int people = 0;
        private int rowWidth = 0;

        void begin(int inches, int comers) {
            rowWidth = inches;
            people = Math.min(comers, MOST_PEOPLE);
        }

        void admit(int p, int inches) {
            if (p >= 0 && p < people) {
                wide[p] = inches;
            }
        }

        /** How many rows; NONE. */
        int fill() {
            for (int rows = 0; rows <= people; rows++) {
                for (int r = 0; r < rows; r++) {
                    room[r] = rowWidth;
                }
                if (seat(this, 0, 0, rows)) {
                    return rows;
                }
            }
            return NONE;
        }

        /** Whether this PERSON and all behind him find seats; the lowest rows are tried first. */
        private static boolean seat(Theatre house, int p, int used, int rows) {
            if (p >= house.people) {
                return true;
            }
            int inches = house.wide[p];
            // Of the rows that none has yet only the lowest may be begun.
            for (int r = 0; r <= used && r < rows; r++) {
                if (inches <= house.room[r]) {
                    house.row[p] = r;
                    house.room[r] -= inches;
                    if (seat(house, p + 1, Math.max(used, r + 1), rows)) {
                        return true;
                    }
                    house.room[r] += inches;
                }
            }
            return false;
        }
    }
}
