import java.util.Arrays;

/**
 * Three riddles or his head. Words in capitals are those of the document (DOC.md).
 *
 * <p>No call makes an object: all that a call needs is laid out by the constructors and used again.
 */
public final class ThreeRiddles {
    public static final int NONE = -1000000, BAD = -1000001, STATE = -1000002, FULL = -1000003;

    private static final int FINDINGS = -1000010, FAULTS = -1000100;
    private static final int NULL = 1, PLACE = 2, KIND = 3, SIZE = 4, STORE = 5;
    private static final int IMAGES = 2;

    private final Rows rows;
    private final Tape tape;
    private final Court now;
    /** A text is read in here first, so that one with a FAULT leaves the COURT as it is. */
    private final Court draft;
    private final Court[] images;
    private final Acts acts;
    private final Foretold foretold;
    private final Asks asks;
    private final int[] heard;
    private int latestFault;
    private int latestFinding;

    public ThreeRiddles() {
        rows = new Rows();
        tape = new Tape();
        now = new Court();
        draft = new Court();
        images = new Court[] {new Court(), new Court()};
        acts = new Acts();
        foretold = new Foretold();
        asks = new Asks();
        heard = new int[Foretold.MOST_SAID];
    }

    // ---- rows

    public int row(int row, int lane, int n) {
        if (!below(row, Rows.MOST) || !below(lane, Rows.LANES) || n > Rows.ITEMS) {
            return BAD;
        }
        if (n < 0) {
            return found(SIZE);
        }
        rows.lay(row, lane, n);
        return clean(n);
    }

    public int set(int row, int i, int v) {
        if (!below(row, Rows.MOST)) {
            return BAD;
        }
        if (rows.isMissing(row)) {
            return found(NULL);
        }
        if (!rows.hasPlaces(row, i, 1)) {
            return found(PLACE);
        }
        return clean(rows.put(row, i, v));
    }

    public int copy(int a, int i, int b, int j, int n) {
        if (!below(a, Rows.MOST) || !below(b, Rows.MOST)) {
            return BAD;
        }
        if (rows.isMissing(a) || rows.isMissing(b)) {
            return found(NULL);
        }
        if (!rows.areAlike(a, b)) {
            return found(STORE);
        }
        if (!rows.hasPlaces(a, i, n) || !rows.hasPlaces(b, j, n)) {
            return found(PLACE);
        }
        rows.move(a, i, b, j, n);
        return clean(n);
    }

    public int drop(int row) {
        if (!below(row, Rows.MOST)) {
            return BAD;
        }
        if (rows.isMissing(row)) {
            return found(NULL);
        }
        return clean(rows.lose(row));
    }

    // ---- courts, acts

    public int feed(int letter) {
        if (!below(letter, 256)) {
            return BAD;
        }
        return tape.add(letter);
    }

    public int court() {
        boolean read = tape.tells(draft);
        tape.clear();
        if (!read) {
            latestFault = tape.fault;
            return FAULTS - tape.place;
        }
        now.become(draft);
        acts.forget();
        return now.suitors;
    }

    public int fault() {
        return latestFault;
    }

    public int asked(int suitor, int riddle) {
        if (!below(suitor, now.suitors) || !below(riddle, now.riddles)) {
            return BAD;
        }
        if (!now.comes(suitor) || now.wasUsed(riddle) || now.isOneWed()) {
            return STATE;
        }
        acts.keep(now, suitor);
        return now.answerHer(suitor, riddle);
    }

    public int inTurn(int suitor, int riddle) {
        if (!below(suitor, now.suitors) || !below(riddle, now.riddles)) {
            return BAD;
        }
        if (!now.comes(suitor) || now.wasUsed(riddle) || now.turned[suitor] != 0 || now.isOneWed()) {
            return STATE;
        }
        acts.keep(now, suitor);
        return now.askHer(suitor, riddle);
    }

    public int buy(int suitor, int thing) {
        if (!below(suitor, now.suitors) || !below(thing, now.things)) {
            return BAD;
        }
        if (!now.comes(suitor) || now.isKnown(suitor, thing)) {
            return STATE;
        }
        acts.keep(now, suitor);
        return now.sell(suitor, thing);
    }

    public int undo() {
        if (acts.held == 0) {
            return STATE;
        }
        acts.takeBack(now);
        return acts.held;
    }

    public int thing(int thing) {
        return below(thing, now.things) ? now.traits[thing] : BAD;
    }

    public int riddle(int riddle, int what) {
        if (!below(riddle, now.riddles)) {
            return BAD;
        }
        switch (what) {
            case 0: return now.yes[riddle];
            case 1: return now.no[riddle];
            case 2: return now.fitting[riddle];
            case 3: return now.answer(riddle);
            case 4: return now.wasUsed(riddle) ? 1 : 0;
            case 5: return Integer.bitCount(now.fitting[riddle]) == 1 ? 1 : 0;
            case 6: return now.sheSays(riddle);
            default: return BAD;
        }
    }

    public int suitor(int suitor, int what) {
        if (!below(suitor, now.suitors)) {
            return BAD;
        }
        switch (what) {
            case 0: return now.knows[suitor];
            case 1: return now.fate[suitor];
            case 2: return now.right[suitor];
            case 3: return now.turned[suitor];
            default: return BAD;
        }
    }

    public int says(int suitor, int riddle) {
        if (!below(suitor, now.suitors) || !below(riddle, now.riddles)) {
            return BAD;
        }
        return now.heSays(suitor, riddle);
    }

    // ---- foretold

    public int riddleFor(int suitor, int kind, int what) {
        if (!below(suitor, now.suitors) || !Court.isSort(kind) || !below(what, 2)) {
            return BAD;
        }
        return foretold.riddleAgainst(now, suitor, kind, what);
    }

    public int hard(int kind, int what) {
        if (!now.stands) {
            return STATE;
        }
        if (!Court.isSort(kind) || !below(what, 2)) {
            return BAD;
        }
        return foretold.hardest(now, kind, what);
    }

    public int chance(int suitor, int what) {
        if (!below(suitor, now.suitors) || !below(what, 2)) {
            return BAD;
        }
        if (!now.comes(suitor)) {
            return STATE;
        }
        return foretold.likelihood(now, suitor, what);
    }

    public int toBuy(int suitor, int what) {
        if (!below(suitor, now.suitors) || !below(what, 2)) {
            return BAD;
        }
        int wanted = foretold.wanted(now, suitor);
        return what == 0 ? wanted : now.costOfAll(wanted);
    }

    public int beats() {
        return now.stands ? foretold.beating(now) : STATE;
    }

    public int tree(int things, int what) {
        if (!now.stands) {
            return STATE;
        }
        if (!below(things, 1 << now.things) || !below(what, 2)) {
            return BAD;
        }
        return foretold.fewestQuestions(now, things, what);
    }

    public int said(int suitor, int row, int i, int n, int what) {
        if (!below(suitor, now.suitors) || !below(row, Rows.MOST)
                || n < 1 || n > Foretold.MOST_SAID || !below(what, 2)) {
            return BAD;
        }
        if (rows.isMissing(row)) {
            return found(NULL);
        }
        if (!rows.hasPlaces(row, i, n)) {
            return found(PLACE);
        }
        for (int k = 0; k < n; k++) {
            heard[k] = rows.at(row, i + k);
            if (heard[k] != Foretold.NOTHING && !below(heard[k], now.things)) {
                return BAD;
            }
        }
        return clean(foretold.riddlesHeard(now, suitor, heard, n, what));
    }

    public int image(int k) {
        if (!below(k, IMAGES)) {
            return BAD;
        }
        if (!now.stands) {
            return STATE;
        }
        images[k].become(now);
        return 1;
    }

    public int restore(int k) {
        if (!below(k, IMAGES)) {
            return BAD;
        }
        if (!images[k].stands) {
            return STATE;
        }
        now.become(images[k]);
        acts.forget();
        return 1;
    }

    // ---- asked

    public int kind(int riddle) {
        return below(riddle, now.riddles) ? now.sort[riddle] : BAD;
    }

    public int as(int riddle, int kind) {
        if (!below(riddle, now.riddles) || !below(kind, Court.KINDS)) {
            return BAD;
        }
        return Court.isOfKind(now.sort[riddle], kind) ? clean(riddle) : found(KIND);
    }

    public int ask(int riddle, int what) {
        if (!below(riddle, now.riddles) || !below(what, 2)) {
            return BAD;
        }
        return asks.begin(now, riddle, what);
    }

    public int trace(int i) {
        return asks.left(i);
    }

    public int count(int what) {
        switch (what) {
            case 0: return rows.present();
            case 1: return now.things;
            case 2: return now.riddles;
            case 3: return now.suitors;
            case 4: return now.used;
            case 5: return now.countOfFate(Court.DEAD);
            case 6: return now.paid;
            case 7: return now.she;
            case 8: return acts.held;
            case 9: return tape.length;
            default: return BAD;
        }
    }

    public int status() {
        return latestFinding;
    }

    private static boolean below(int x, int bound) {
        return x >= 0 && x < bound;
    }

    private int found(int finding) {
        latestFinding = finding;
        return FINDINGS - finding;
    }

    private int clean(int answer) {
        latestFinding = 0;
        return answer;
    }

    /** ROWS 0 .. 7. Callers have tested a row's number, and its places with hasPlaces. */
    private static final class Rows {
        static final int MOST = 8, ITEMS = 40, LANES = 3;

        /** How many bits an ITEM of the row has; 0: the row is missing. */
        private final int[] width = new int[MOST];
        private final int[] size = new int[MOST];
        /** All rows one behind another, so that one move serves within a row and between two. */
        private final int[] items = new int[MOST * ITEMS];

        boolean isMissing(int row) {
            return width[row] == 0;
        }

        boolean areAlike(int a, int b) {
            return width[a] == width[b];
        }

        boolean hasPlaces(int row, int i, int n) {
            return i >= 0 && n >= 0 && n <= size[row] && i <= size[row] - n;
        }

        void lay(int row, int lane, int n) {
            width[row] = 8 << lane;
            size[row] = n;
            Arrays.fill(items, row * ITEMS, row * ITEMS + ITEMS, 0);
        }

        int put(int row, int i, int v) {
            int spare = 32 - width[row];
            items[row * ITEMS + i] = v << spare >> spare;
            return items[row * ITEMS + i];
        }

        int at(int row, int i) {
            return items[row * ITEMS + i];
        }

        void move(int a, int i, int b, int j, int n) {
            System.arraycopy(items, a * ITEMS + i, items, b * ITEMS + j, n);
        }

        int lose(int row) {
            width[row] = 0;
            return size[row];
        }

        int present() {
            int many = 0;
            for (int row = 0; row < MOST; row++) {
                if (width[row] != 0) {
                    many++;
                }
            }
            return many;
        }
    }

    /** THE TAPE, and how a COURT is read from it. */
    private static final class Tape {
        private static final int MOST = 120, MOST_FIGURES = 3, END = -1;
        private static final int MISPLACED = 1, NOT_AS_TOLD = 2, NO_ROOM = 3;

        private final int[] bytes = new int[MOST];
        int length;
        /** The first byte of the TOKEN that comes next; behind a FAULT, of the one that has it. */
        int place;
        int fault;
        private int number;

        int add(int letter) {
            if (length >= MOST) {
                return FULL;
            }
            bytes[length] = letter;
            length++;
            return length;
        }

        void clear() {
            length = 0;
        }

        /** False: there is a FAULT, and what the court holds then is worth nothing. */
        boolean tells(Court court) {
            place = 0;
            court.clear();
            if (!tellsLaw(court) || !tellsThings(court) || !tellsRiddles(court) || !tellsSuitors(court)) {
                return false;
            }
            court.she &= court.allThings();
            return next() == END || faulty(MISPLACED);
        }

        private boolean tellsLaw(Court court) {
            if (!takes('k') || !takesNumber(255, 0)) {
                return false;
            }
            court.she = number;
            if (!takes(',') || !takesNumber(99, 0)) {
                return false;
            }
            court.price = number;
            return takes(';');
        }

        private boolean tellsThings(Court court) {
            while (next() == 't' && court.things < Court.MOST_THINGS) {
                if (!takes('t') || !takesNumber(Court.ALL_TRAITS, 0) || !takes(';')) {
                    return false;
                }
                court.traits[court.things] = number;
                court.things++;
            }
            return next() != 't' || faulty(NO_ROOM);
        }

        private boolean tellsRiddles(Court court) {
            while (Court.sortOf(next()) != Court.RIDDLE && court.riddles < Court.MOST_RIDDLES) {
                if (!tellsRiddle(court, court.riddles)) {
                    return false;
                }
                court.riddles++;
            }
            return Court.sortOf(next()) == Court.RIDDLE || faulty(NO_ROOM);
        }

        private boolean tellsRiddle(Court court, int riddle) {
            court.sort[riddle] = Court.sortOf(next());
            place++;
            if (!takesNumber(Court.ALL_TRAITS, 0)) {
                return false;
            }
            court.yes[riddle] = number;
            if (!takes(',') || !takesNumber(Court.ALL_TRAITS, court.yes[riddle])) {
                return false;
            }
            court.no[riddle] = number;
            court.fitting[riddle] = court.thingsFitting(court.sort[riddle], court.yes[riddle], number);
            return takes(';');
        }

        private boolean tellsSuitors(Court court) {
            while (next() == 'w' && court.suitors < Court.MOST_SUITORS) {
                if (!takes('w') || !takesNumber(court.allThings(), 0) || !takes(';')) {
                    return false;
                }
                court.knows[court.suitors] = number;
                court.suitors++;
            }
            return next() != 'w' || faulty(NO_ROOM);
        }

        private int next() {
            return place < length ? bytes[place] : END;
        }

        private boolean takes(int sign) {
            if (next() != sign) {
                return faulty(MISPLACED);
            }
            place++;
            return true;
        }

        /** A NUMBER up to most that has none of the barred bits. */
        private boolean takesNumber(int most, int barred) {
            int end = place;
            int sum = 0;
            while (end < length && bytes[end] >= '0' && bytes[end] <= '9') {
                // A longer run is no NUMBER anyway: its sum stops here, lest it overflow.
                if (end - place < MOST_FIGURES) {
                    sum = 10 * sum + bytes[end] - '0';
                }
                end++;
            }
            if (end == place || end - place > MOST_FIGURES) {
                return faulty(MISPLACED);
            }
            if (sum > most || (sum & barred) != 0) {
                return faulty(NOT_AS_TOLD);
            }
            number = sum;
            place = end;
            return true;
        }

        private boolean faulty(int which) {
            fault = which;
            return false;
        }
    }

    /** A COURT with all that its ACTS change. Callers have tested the numbers that they hand in. */
    private static final class Court {
        static final int RIDDLE = 0, PLAIN = 1, DOUBLE = 2, SUNG = 3, LYING = 4, UNFAIR = 5, KINDS = 6;
        static final int COMING = 0, DEAD = 1, WED = 2, FREE = 3;
        static final int MOST_THINGS = 8, MOST_RIDDLES = 6, MOST_SUITORS = 4;
        static final int TRAITS = 5, ALL_TRAITS = 31, TIMES_TO_WED = 3;

        boolean stands;
        int she;
        int price;
        int things;
        final int[] traits = new int[MOST_THINGS];
        int riddles;
        final int[] sort = new int[MOST_RIDDLES];
        final int[] yes = new int[MOST_RIDDLES];
        final int[] no = new int[MOST_RIDDLES];
        /** Which THINGS FIT: neither RIDDLES nor THINGS ever change, so this is found once. */
        final int[] fitting = new int[MOST_RIDDLES];
        int suitors;
        final int[] knows = new int[MOST_SUITORS];
        final int[] fate = new int[MOST_SUITORS];
        final int[] right = new int[MOST_SUITORS];
        final int[] turned = new int[MOST_SUITORS];
        int used;
        int paid;

        /** RIDDLE: the letter is no SORT. */
        static int sortOf(int letter) {
            switch (letter) {
                case 'p': return PLAIN;
                case 'd': return DOUBLE;
                case 'g': return SUNG;
                case 'l': return LYING;
                case 'u': return UNFAIR;
                default: return RIDDLE;
            }
        }

        static boolean isSort(int kind) {
            return kind > RIDDLE && kind < KINDS;
        }

        static boolean isOfKind(int sort, int kind) {
            switch (kind) {
                case RIDDLE: return true;
                case PLAIN: return sort == PLAIN || sort == DOUBLE || sort == SUNG;
                case LYING: return sort == LYING || sort == UNFAIR;
                default: return sort == kind;
            }
        }

        static boolean fits(int sort, int yes, int no, int traits) {
            boolean lacksAllOfNo = (traits & no) == 0;
            boolean fitsPlain = (traits & yes) == yes && lacksAllOfNo;
            switch (sort) {
                case DOUBLE: return fitsPlain || (traits & no) == no && (traits & yes) == 0;
                case SUNG: return Integer.bitCount(yes & ~traits) <= 1 && lacksAllOfNo;
                case LYING: return !fitsPlain;
                case UNFAIR: return !fitsPlain && lacksAllOfNo;
                default: return fitsPlain;
            }
        }

        static int least(int set) {
            int lowest = set & -set;
            return set == 0 ? NONE : Integer.bitCount(lowest - 1);
        }

        /** Nothing is told yet; SHE and PRICE need no clearing, as each text begins with them. */
        void clear() {
            stands = true;
            things = 0;
            riddles = 0;
            suitors = 0;
            used = 0;
            paid = 0;
            Arrays.fill(fate, COMING);
            Arrays.fill(right, 0);
            Arrays.fill(turned, 0);
        }

        void become(Court other) {
            stands = other.stands;
            she = other.she;
            price = other.price;
            things = other.things;
            riddles = other.riddles;
            suitors = other.suitors;
            used = other.used;
            paid = other.paid;
            System.arraycopy(other.traits, 0, traits, 0, MOST_THINGS);
            System.arraycopy(other.sort, 0, sort, 0, MOST_RIDDLES);
            System.arraycopy(other.yes, 0, yes, 0, MOST_RIDDLES);
            System.arraycopy(other.no, 0, no, 0, MOST_RIDDLES);
            System.arraycopy(other.fitting, 0, fitting, 0, MOST_RIDDLES);
            System.arraycopy(other.knows, 0, knows, 0, MOST_SUITORS);
            System.arraycopy(other.fate, 0, fate, 0, MOST_SUITORS);
            System.arraycopy(other.right, 0, right, 0, MOST_SUITORS);
            System.arraycopy(other.turned, 0, turned, 0, MOST_SUITORS);
        }

        int allThings() {
            return (1 << things) - 1;
        }

        int thingsFitting(int sort, int yes, int no) {
            int set = 0;
            for (int thing = 0; thing < things; thing++) {
                if (fits(sort, yes, no, traits[thing])) {
                    set |= 1 << thing;
                }
            }
            return set;
        }

        int answer(int riddle) {
            return least(fitting[riddle]);
        }

        int heSays(int suitor, int riddle) {
            return least(fitting[riddle] & knows[suitor]);
        }

        int sheSays(int riddle) {
            return least(fitting[riddle] & she);
        }

        boolean isKnown(int suitor, int thing) {
            return (knows[suitor] >> thing & 1) != 0;
        }

        boolean wasUsed(int riddle) {
            return (used >> riddle & 1) != 0;
        }

        boolean comes(int suitor) {
            return fate[suitor] == COMING;
        }

        boolean isOneWed() {
            return countOfFate(WED) > 0;
        }

        int countOfFate(int which) {
            int many = 0;
            for (int suitor = 0; suitor < suitors; suitor++) {
                if (fate[suitor] == which) {
                    many++;
                }
            }
            return many;
        }

        int answerHer(int suitor, int riddle) {
            int said = heSays(suitor, riddle);
            used |= 1 << riddle;
            if (said != answer(riddle)) {
                fate[suitor] = DEAD;
                return said;
            }
            right[suitor]++;
            if (right[suitor] >= TIMES_TO_WED) {
                fate[suitor] = WED;
            }
            return said;
        }

        int askHer(int suitor, int riddle) {
            int said = sheSays(riddle);
            used |= 1 << riddle;
            turned[suitor] = 1;
            if (said != answer(riddle)) {
                fate[suitor] = FREE;
            }
            return said;
        }

        int sell(int suitor, int thing) {
            int cost = cost(thing);
            knows[suitor] |= 1 << thing;
            paid += cost;
            return cost;
        }

        int cost(int thing) {
            int sum = 0;
            for (int riddle = 0; riddle < riddles; riddle++) {
                if (!wasUsed(riddle) && answer(riddle) == thing) {
                    sum += price;
                }
            }
            return sum;
        }

        int costOfAll(int set) {
            int sum = 0;
            for (int thing = 0; thing < things; thing++) {
                if ((set >> thing & 1) != 0) {
                    sum += cost(thing);
                }
            }
            return sum;
        }
    }

    /**
     * ACTS that can be undone: what stood ahead of each, of the one SUITOR that it changes. That he
     * was to COME need not be kept: nobody else acts.
     */
    private static final class Acts {
        private static final int MOST = 24;

        private final int[] suitor = new int[MOST];
        private final int[] knows = new int[MOST];
        private final int[] right = new int[MOST];
        private final int[] turned = new int[MOST];
        private final int[] used = new int[MOST];
        private final int[] paid = new int[MOST];
        /** Where the next ACT is kept: the places go round, so that the oldest is written over. */
        private int next;
        int held;

        void forget() {
            held = 0;
        }

        void keep(Court court, int who) {
            suitor[next] = who;
            knows[next] = court.knows[who];
            right[next] = court.right[who];
            turned[next] = court.turned[who];
            used[next] = court.used;
            paid[next] = court.paid;
            next = next + 1 < MOST ? next + 1 : 0;
            held = Math.min(held + 1, MOST);
        }

        void takeBack(Court court) {
            next = next > 0 ? next - 1 : MOST - 1;
            held--;
            int who = suitor[next];
            court.knows[who] = knows[next];
            court.fate[who] = Court.COMING;
            court.right[who] = right[next];
            court.turned[who] = turned[next];
            court.used = used[next];
            court.paid = paid[next];
        }
    }

    /** What is FORETOLD of a COURT, which stays as it is. */
    private static final class Foretold {
        static final int MOST_SAID = 6, NOTHING = -1;
        /** 32 times YES, and NO: counted up, these are all RIDDLES of a KIND in the document's order. */
        private static final int ALL_RIDDLES = 1024;

        /** By a set of THINGS: how many questions it needs. */
        private final int[] questions = new int[1 << Court.MOST_THINGS];
        private final int[] having = new int[Court.TRAITS];

        int riddleAgainst(Court court, int suitor, int sort, int what) {
            int first = NONE;
            int many = 0;
            for (int told = 0; told < ALL_RIDDLES; told++) {
                int thing = onlyThing(court, sort, told);
                if (thing != NONE && !court.isKnown(suitor, thing)) {
                    first = many == 0 ? told : first;
                    many++;
                }
            }
            return what == 0 ? first : many;
        }

        int hardest(Court court, int sort, int what) {
            int first = NONE;
            int most = NONE;
            for (int told = 0; told < ALL_RIDDLES; told++) {
                int thing = onlyThing(court, sort, told);
                int beaten = thing == NONE ? NONE : comingWithout(court, thing);
                if (beaten > most) {
                    first = told;
                    most = beaten;
                }
            }
            return what == 0 ? first : most;
        }

        /** The one THING that FITS; NONE: the RIDDLE is not FAIR, or there is none told so. */
        private static int onlyThing(Court court, int sort, int told) {
            int yes = told >> Court.TRAITS;
            int no = told & Court.ALL_TRAITS;
            if ((yes & no) != 0) {
                return NONE;
            }
            int set = court.thingsFitting(sort, yes, no);
            return Integer.bitCount(set) == 1 ? Court.least(set) : NONE;
        }

        /** To a FAIR RIDDLE one SAYS ANSWER just if he KNOWS the one THING that FITS. */
        private static int comingWithout(Court court, int thing) {
            int many = 0;
            for (int suitor = 0; suitor < court.suitors; suitor++) {
                if (court.comes(suitor) && !court.isKnown(suitor, thing)) {
                    many++;
                }
            }
            return many;
        }

        /** A wrong word is his last, so all that he needs must be of those to which he SAYS ANSWER. */
        int likelihood(Court court, int suitor, int what) {
            int unused = 0;
            int good = 0;
            for (int riddle = 0; riddle < court.riddles; riddle++) {
                if (!court.wasUsed(riddle)) {
                    unused++;
                    good += court.heSays(suitor, riddle) == court.answer(riddle) ? 1 : 0;
                }
            }
            int needs = Court.TIMES_TO_WED - court.right[suitor];
            if (unused < needs) {
                return NONE;
            }
            int above = rowsOfUnlike(good, needs);
            int below = rowsOfUnlike(unused, needs);
            // From the greatest down, so that the first that divides both leaves lowest terms.
            for (int by = below; by > 1; by--) {
                if (above % by == 0 && below % by == 0) {
                    above /= by;
                    below /= by;
                }
            }
            return what == 0 ? above : below;
        }

        private static int rowsOfUnlike(int of, int length) {
            int rows = 1;
            for (int k = 0; k < length; k++) {
                rows *= Math.max(of - k, 0);
            }
            return rows;
        }

        int wanted(Court court, int suitor) {
            int set = 0;
            for (int riddle = 0; riddle < court.riddles; riddle++) {
                int answer = court.answer(riddle);
                if (!court.wasUsed(riddle) && answer != NONE) {
                    set |= 1 << answer;
                }
            }
            return set & ~court.knows[suitor];
        }

        int beating(Court court) {
            int set = 0;
            for (int riddle = 0; riddle < court.riddles; riddle++) {
                if (!court.wasUsed(riddle) && court.sheSays(riddle) != court.answer(riddle)) {
                    set |= 1 << riddle;
                }
            }
            return set;
        }

        int fewestQuestions(Court court, int set, int what) {
            if (areTwoAlike(court, set)) {
                return NONE;
            }
            gatherByTraits(court);
            // What a question leaves of a set is less than the set as a number: it is known by then.
            for (int part = 0; part <= set; part++) {
                if ((part & ~set) == 0) {
                    questions[part] = fewestOfAll(part);
                }
            }
            return what == 0 ? questions[set] : firstTrait(set);
        }

        private static boolean areTwoAlike(Court court, int set) {
            int seen = 0;
            for (int thing = 0; thing < court.things; thing++) {
                if ((set >> thing & 1) != 0) {
                    int mark = 1 << court.traits[thing];
                    if ((seen & mark) != 0) {
                        return true;
                    }
                    seen |= mark;
                }
            }
            return false;
        }

        private void gatherByTraits(Court court) {
            Arrays.fill(having, 0);
            for (int trait = 0; trait < Court.TRAITS; trait++) {
                for (int thing = 0; thing < court.things; thing++) {
                    if ((court.traits[thing] >> trait & 1) != 0) {
                        having[trait] |= 1 << thing;
                    }
                }
            }
        }

        private int fewestOfAll(int set) {
            if (Integer.bitCount(set) <= 1) {
                return 0;
            }
            int fewest = Court.TRAITS;
            for (int trait = 0; trait < Court.TRAITS; trait++) {
                if (splits(trait, set)) {
                    fewest = Math.min(fewest, questionsBy(trait, set));
                }
            }
            return fewest;
        }

        private int firstTrait(int set) {
            for (int trait = 0; trait < Court.TRAITS; trait++) {
                if (splits(trait, set) && questionsBy(trait, set) == questions[set]) {
                    return trait;
                }
            }
            return NONE;
        }

        private boolean splits(int trait, int set) {
            return (set & having[trait]) != 0 && (set & ~having[trait]) != 0;
        }

        private int questionsBy(int trait, int set) {
            return 1 + Math.max(questions[set & having[trait]], questions[set & ~having[trait]]);
        }

        /** Each word takes one of the RIDDLES to which he SAYS it, and leaves one fewer to the next. */
        int riddlesHeard(Court court, int suitor, int[] words, int n, int what) {
            int ways = 1;
            int inEach = 0;
            for (int k = 0; k < n; k++) {
                int could = riddlesSaid(court, suitor, words[k]);
                int left = Integer.bitCount(could) - timesBefore(words, k);
                if (left <= 0) {
                    return 0;
                }
                ways *= left;
                // The last that was left is taken: then all of them were asked, whatever the order.
                inEach |= left == 1 ? could : 0;
            }
            return what == 0 ? ways : inEach;
        }

        private static int riddlesSaid(Court court, int suitor, int word) {
            int said = word == NOTHING ? NONE : word;
            int set = 0;
            for (int riddle = 0; riddle < court.riddles; riddle++) {
                if (court.heSays(suitor, riddle) == said) {
                    set |= 1 << riddle;
                }
            }
            return set;
        }

        private static int timesBefore(int[] words, int k) {
            int times = 0;
            for (int j = 0; j < k; j++) {
                if (words[j] == words[k]) {
                    times++;
                }
            }
            return times;
        }
    }

    /**
     * ASKS. Where one BODY asks for what another gives, both stand in one method, and SIZE and MARK
     * of PLAIN ones are apart from those of LYING ones: so no method can come to itself again.
     */
    private static final class Asks {
        private static final int MOST = 16;

        private final int[] bodies = new int[MOST];
        private int length;

        int left(int i) {
            return i >= 0 && i < length ? bodies[i] : NONE;
        }

        int begin(Court court, int riddle, int what) {
            length = 0;
            boolean plain = Court.isOfKind(court.sort[riddle], Court.PLAIN);
            if (what == 0) {
                return plain ? sizeOfPlain(court, riddle) : sizeOfLying(court, riddle);
            }
            return plain ? markOfPlain(court, riddle) : markOfLying(court, riddle);
        }

        private int sizeOfAll(Court court, int riddle) {
            leave(10);
            return Integer.bitCount(court.fitting[riddle]);
        }

        private int sizeOfPlain(Court court, int riddle) {
            boolean isDouble = court.sort[riddle] == Court.DOUBLE;
            if (isDouble) {
                leave(12);
            }
            leave(11);
            int lent = sizeOfAll(court, riddle);
            int size = lent + markOfPlain(court, riddle);
            return isDouble ? -size : size;
        }

        private int sizeOfLying(Court court, int riddle) {
            boolean isUnfair = court.sort[riddle] == Court.UNFAIR;
            if (isUnfair) {
                leave(14);
            }
            leave(13);
            int size = sizeOfAll(court, riddle) - 100;
            return isUnfair ? 2 * size : size;
        }

        private int markOfAll(int riddle) {
            leave(20);
            return riddle;
        }

        private int markOfPlain(Court court, int riddle) {
            boolean isDouble = court.sort[riddle] == Court.DOUBLE;
            boolean isSung = court.sort[riddle] == Court.SUNG;
            if (isDouble) {
                leave(24);
            }
            if (isSung) {
                leave(22);
            }
            leave(21);
            int mark = markOfAll(riddle) + court.yes[riddle];
            return isDouble ? 2 * mark : isSung ? mark - 1000 : mark;
        }

        private int markOfLying(Court court, int riddle) {
            leave(23);
            int lent = markOfAll(riddle);
            return lent - sizeOfLying(court, riddle);
        }

        private void leave(int body) {
            if (length < MOST) {
                bodies[length] = body;
                length++;
            }
        }
    }
}
