import java.util.ArrayDeque;
import java.util.ArrayList;
import java.util.Deque;
import java.util.List;
import java.util.function.IntPredicate;

/**
 * The document written a second time, in the ways that are plainest to check rather than cheap:
 * riddles are objects of a class for each KIND, all rows of riddles are tried one by one, and undo
 * keeps whole courts. It shares no code with ThreeRiddles.
 */
final class Model {
    private static final int NONE = Due.NONE, BAD = Due.BAD, STATE = Due.STATE, FULL = Due.FULL;

    // ---- riddles, by KIND

    interface Riddle {
        int number();

        int yes();

        int no();

        List<Integer> things();

        List<Integer> trace();

        default boolean fitsPlain(int traits) {
            for (int trait = 0; trait < 5; trait++) {
                boolean has = has(traits, trait);
                if (has(yes(), trait) && !has || has(no(), trait) && has) {
                    return false;
                }
            }
            return true;
        }

        boolean fits(int traits);

        default List<Integer> fitting() {
            List<Integer> list = new ArrayList<>();
            for (int thing = 0; thing < things().size(); thing++) {
                if (fits(things().get(thing))) {
                    list.add(thing);
                }
            }
            return list;
        }

        default int said(IntPredicate known) {
            for (int thing : fitting()) {
                if (known.test(thing)) {
                    return thing;
                }
            }
            return NONE;
        }

        default int answer() {
            return said(thing -> true);
        }

        default int size() {
            trace().add(10);
            return fitting().size();
        }

        default int mark() {
            trace().add(20);
            return number();
        }
    }

    abstract static class Told implements Riddle {
        final int number, yes, no;
        final List<Integer> things, trace;

        Told(int number, int yes, int no, List<Integer> things, List<Integer> trace) {
            this.number = number;
            this.yes = yes;
            this.no = no;
            this.things = things;
            this.trace = trace;
        }

        public int number() {
            return number;
        }

        public int yes() {
            return yes;
        }

        public int no() {
            return no;
        }

        public List<Integer> things() {
            return things;
        }

        public List<Integer> trace() {
            return trace;
        }
    }

    static class Plain extends Told {
        Plain(int number, int yes, int no, List<Integer> things, List<Integer> trace) {
            super(number, yes, no, things, trace);
        }

        public boolean fits(int traits) {
            return fitsPlain(traits);
        }

        public int size() {
            trace.add(11);
            return super.size() + mark();
        }

        public int mark() {
            trace.add(21);
            return super.mark() + yes;
        }
    }

    static final class Twofold extends Plain {
        Twofold(int number, int yes, int no, List<Integer> things, List<Integer> trace) {
            super(number, yes, no, things, trace);
        }

        public boolean fits(int traits) {
            return fitsPlain(traits) || new Plain(number, no, yes, things, trace).fitsPlain(traits);
        }

        public int size() {
            trace.add(12);
            return 0 - super.size();
        }

        public int mark() {
            trace.add(24);
            return 2 * super.mark();
        }
    }

    static final class Sung extends Plain {
        Sung(int number, int yes, int no, List<Integer> things, List<Integer> trace) {
            super(number, yes, no, things, trace);
        }

        public boolean fits(int traits) {
            if (fitsPlain(traits)) {
                return true;
            }
            for (int trait = 0; trait < 5; trait++) {
                int fewer = yes & ~(1 << trait);
                if (has(yes, trait) && new Plain(number, fewer, no, things, trace).fitsPlain(traits)) {
                    return true;
                }
            }
            return false;
        }

        public int mark() {
            trace.add(22);
            return super.mark() - 1000;
        }
    }

    static class Lying extends Told {
        Lying(int number, int yes, int no, List<Integer> things, List<Integer> trace) {
            super(number, yes, no, things, trace);
        }

        public boolean fits(int traits) {
            return !fitsPlain(traits);
        }

        public int size() {
            trace.add(13);
            return super.size() - 100;
        }

        public int mark() {
            trace.add(23);
            return super.mark() - size();
        }
    }

    static final class Unfair extends Lying {
        Unfair(int number, int yes, int no, List<Integer> things, List<Integer> trace) {
            super(number, yes, no, things, trace);
        }

        public boolean fits(int traits) {
            return super.fits(traits) && (traits & no) == 0;
        }

        public int size() {
            trace.add(14);
            return 2 * super.size();
        }
    }

    static Riddle riddle(int kind, int number, int yes, int no, List<Integer> things, List<Integer> trace) {
        return switch (kind) {
            case 1 -> new Plain(number, yes, no, things, trace);
            case 2 -> new Twofold(number, yes, no, things, trace);
            case 3 -> new Sung(number, yes, no, things, trace);
            case 4 -> new Lying(number, yes, no, things, trace);
            default -> new Unfair(number, yes, no, things, trace);
        };
    }

    static boolean isA(Riddle riddle, int kind) {
        return switch (kind) {
            case 0 -> true;
            case 1 -> riddle instanceof Plain;
            case 2 -> riddle instanceof Twofold;
            case 3 -> riddle instanceof Sung;
            case 4 -> riddle instanceof Lying;
            default -> riddle instanceof Unfair;
        };
    }

    static boolean has(int set, int member) {
        return (set & 1 << member) != 0;
    }

    // ---- courts

    static final class Suitor {
        int knows, fate, right, turned;

        Suitor copy() {
            Suitor other = new Suitor();
            other.knows = knows;
            other.fate = fate;
            other.right = right;
            other.turned = turned;
            return other;
        }
    }

    static final class State {
        int she, price, paid;
        List<Integer> things = new ArrayList<>();
        List<Riddle> riddles = new ArrayList<>();
        List<Suitor> suitors = new ArrayList<>();
        boolean[] used = new boolean[6];

        State copy() {
            State other = new State();
            other.she = she;
            other.price = price;
            other.paid = paid;
            other.things = things;
            other.riddles = riddles;
            for (Suitor suitor : suitors) {
                other.suitors.add(suitor.copy());
            }
            other.used = used.clone();
            return other;
        }

        List<Riddle> unused() {
            List<Riddle> list = new ArrayList<>();
            for (Riddle riddle : riddles) {
                if (!used[riddle.number()]) {
                    list.add(riddle);
                }
            }
            return list;
        }

        int says(int suitor, Riddle riddle) {
            return riddle.said(thing -> has(suitors.get(suitor).knows, thing));
        }

        int sheSays(Riddle riddle) {
            return riddle.said(thing -> has(she, thing));
        }

        boolean oneWed() {
            for (Suitor suitor : suitors) {
                if (suitor.fate == 2) {
                    return true;
                }
            }
            return false;
        }

        int cost(int thing) {
            int sum = 0;
            for (Riddle riddle : unused()) {
                sum += riddle.answer() == thing ? price : 0;
            }
            return sum;
        }
    }

    private final int[] lanes = new int[8];
    private final int[][] rows = new int[8][];
    private final StringBuilder tape = new StringBuilder();
    private final State[] images = new State[2];
    private final Deque<State> acts = new ArrayDeque<>();
    private final List<Integer> trace = new ArrayList<>();
    private State court;
    private int fault, status;

    private boolean noSuitor(int suitor) {
        return court == null || suitor < 0 || suitor >= court.suitors.size();
    }

    private boolean noRiddle(int riddle) {
        return court == null || riddle < 0 || riddle >= court.riddles.size();
    }

    private boolean noThing(int thing) {
        return court == null || thing < 0 || thing >= court.things.size();
    }

    private boolean noTwo(int what) {
        return what != 0 && what != 1;
    }

    private int found(int finding) {
        status = finding;
        return -1000010 - finding;
    }

    private int fine(int answer) {
        status = 0;
        return answer;
    }

    // ---- rows

    int row(int row, int lane, int n) {
        if (row < 0 || row > 7 || lane < 0 || lane > 2 || n > 40) {
            return BAD;
        }
        if (n < 0) {
            return found(4);
        }
        rows[row] = new int[n];
        lanes[row] = lane;
        return fine(n);
    }

    int set(int row, int i, int v) {
        if (row < 0 || row > 7) {
            return BAD;
        }
        if (rows[row] == null) {
            return found(1);
        }
        if (i < 0 || i >= rows[row].length) {
            return found(2);
        }
        rows[row][i] = lanes[row] == 0 ? (byte) v : lanes[row] == 1 ? (short) v : v;
        return fine(rows[row][i]);
    }

    int copy(int a, int i, int b, int j, int n) {
        if (a < 0 || a > 7 || b < 0 || b > 7) {
            return BAD;
        }
        if (rows[a] == null || rows[b] == null) {
            return found(1);
        }
        if (lanes[a] != lanes[b]) {
            return found(5);
        }
        if (i < 0 || j < 0 || n < 0 || (long) i + n > rows[a].length || (long) j + n > rows[b].length) {
            return found(2);
        }
        int[] ahead = rows[a].clone();
        for (int k = 0; k < n; k++) {
            rows[b][j + k] = ahead[i + k];
        }
        return fine(n);
    }

    int drop(int row) {
        if (row < 0 || row > 7) {
            return BAD;
        }
        if (rows[row] == null) {
            return found(1);
        }
        int n = rows[row].length;
        rows[row] = null;
        return fine(n);
    }

    // ---- courts, acts

    int feed(int letter) {
        if (letter < 0 || letter > 255) {
            return BAD;
        }
        if (tape.length() == 120) {
            return FULL;
        }
        tape.append((char) letter);
        return tape.length();
    }

    /** A letter or a sign as itself, a NUMBER as 'n', the end as 'E', what is none as '?'. */
    private record Token(char type, int place, int value) { }

    private static List<Token> tokens(String text) {
        List<Token> list = new ArrayList<>();
        int at = 0;
        while (at < text.length()) {
            char c = text.charAt(at);
            int end = at + 1;
            if (c >= '0' && c <= '9') {
                while (end < text.length() && text.charAt(end) >= '0' && text.charAt(end) <= '9') {
                    end++;
                }
                boolean one = end - at <= 3;
                list.add(new Token(one ? 'n' : '?', at, one ? Integer.parseInt(text.substring(at, end)) : 0));
            } else {
                boolean one = c >= 'a' && c <= 'z' || c == ',' || c == ';';
                list.add(new Token(one ? c : '?', at, 0));
            }
            at = end;
        }
        list.add(new Token('E', text.length(), 0));
        return list;
    }

    /** What may stand ahead of each part, and what a part is made of: n stands for a NUMBER. */
    private static String form(char letter) {
        return letter == 'k' || "pdglu".indexOf(letter) >= 0 ? "n,n;" : "n;";
    }

    int court() {
        String text = tape.toString();
        tape.setLength(0);
        State told = new State();
        String allowed = "k";
        char part = ' ';
        String rest = "";
        int first = 0;
        for (Token token : tokens(text)) {
            int wrong = 0;
            if (rest.isEmpty()) {
                part = token.type;
                if (allowed.indexOf(part) < 0) {
                    wrong = 1;
                } else if (part == 't' && told.things.size() == 8
                        || "pdglu".indexOf(part) >= 0 && told.riddles.size() == 6
                        || part == 'w' && told.suitors.size() == 4) {
                    wrong = 3;
                } else if (part == 'E') {
                    break;
                }
                allowed = part == 'w' ? "wE" : part == 't' || part == 'k' ? "tpdgluwE" : "pdgluwE";
                rest = form(part);
            } else {
                wrong = token.type != rest.charAt(0) ? 1 : 0;
                boolean second = rest.equals("n;") && form(part).length() == 4;
                rest = rest.substring(1);
                if (wrong == 0 && token.type == 'n') {
                    wrong = number(told, part, second, first, token.value) ? 0 : 2;
                    first = token.value;
                }
            }
            if (wrong != 0) {
                fault = wrong;
                return -1000100 - token.place;
            }
        }
        told.she &= (1 << told.things.size()) - 1;
        court = told;
        acts.clear();
        return told.suitors.size();
    }

    private boolean number(State told, char part, boolean second, int first, int value) {
        switch (part) {
            case 'k':
                if (second) {
                    told.price = value;
                    return value <= 99;
                }
                told.she = value;
                return value <= 255;
            case 't':
                told.things.add(value);
                return value <= 31;
            case 'w':
                Suitor suitor = new Suitor();
                suitor.knows = value;
                told.suitors.add(suitor);
                return value < 1 << told.things.size();
            default:
                if (second) {
                    int kind = "?pdglu".indexOf(part);
                    told.riddles.add(riddle(kind, told.riddles.size(), first, value, told.things, trace));
                    return value <= 31 && (value & first) == 0;
                }
                return value <= 31;
        }
    }

    int fault() {
        return fault;
    }

    private void act() {
        acts.addLast(court.copy());
        if (acts.size() > 24) {
            acts.removeFirst();
        }
    }

    int asked(int suitor, int riddle) {
        if (noSuitor(suitor) || noRiddle(riddle)) {
            return BAD;
        }
        Suitor he = court.suitors.get(suitor);
        if (he.fate != 0 || court.used[riddle] || court.oneWed()) {
            return STATE;
        }
        act();
        int word = court.says(suitor, court.riddles.get(riddle));
        court.used[riddle] = true;
        if (word == court.riddles.get(riddle).answer()) {
            he.right++;
            he.fate = he.right == 3 ? 2 : 0;
        } else {
            he.fate = 1;
        }
        return word;
    }

    int inTurn(int suitor, int riddle) {
        if (noSuitor(suitor) || noRiddle(riddle)) {
            return BAD;
        }
        Suitor he = court.suitors.get(suitor);
        if (he.fate != 0 || court.used[riddle] || he.turned == 1 || court.oneWed()) {
            return STATE;
        }
        act();
        int word = court.sheSays(court.riddles.get(riddle));
        court.used[riddle] = true;
        he.turned = 1;
        if (word != court.riddles.get(riddle).answer()) {
            he.fate = 3;
        }
        return word;
    }

    int buy(int suitor, int thing) {
        if (noSuitor(suitor) || noThing(thing)) {
            return BAD;
        }
        Suitor he = court.suitors.get(suitor);
        if (he.fate != 0 || has(he.knows, thing)) {
            return STATE;
        }
        act();
        he.knows += 1 << thing;
        court.paid += court.cost(thing);
        return court.cost(thing);
    }

    int undo() {
        if (acts.isEmpty()) {
            return STATE;
        }
        court = acts.removeLast();
        return acts.size();
    }

    int thing(int thing) {
        return noThing(thing) ? BAD : court.things.get(thing);
    }

    int riddle(int riddle, int what) {
        if (noRiddle(riddle)) {
            return BAD;
        }
        Riddle it = court.riddles.get(riddle);
        return switch (what) {
            case 0 -> it.yes();
            case 1 -> it.no();
            case 2 -> bits(it.fitting());
            case 3 -> it.answer();
            case 4 -> court.used[riddle] ? 1 : 0;
            case 5 -> it.fitting().size() == 1 ? 1 : 0;
            case 6 -> court.sheSays(it);
            default -> BAD;
        };
    }

    private static int bits(List<Integer> members) {
        int set = 0;
        for (int member : members) {
            set |= 1 << member;
        }
        return set;
    }

    int suitor(int suitor, int what) {
        if (noSuitor(suitor)) {
            return BAD;
        }
        Suitor he = court.suitors.get(suitor);
        return switch (what) {
            case 0 -> he.knows;
            case 1 -> he.fate;
            case 2 -> he.right;
            case 3 -> he.turned;
            default -> BAD;
        };
    }

    int says(int suitor, int riddle) {
        return noSuitor(suitor) || noRiddle(riddle) ? BAD : court.says(suitor, court.riddles.get(riddle));
    }

    // ---- foretold

    private List<Riddle> allFair(int kind) {
        List<Riddle> list = new ArrayList<>();
        for (int yes = 0; yes < 32; yes++) {
            for (int no = 0; no < 32; no++) {
                Riddle it = riddle(kind, 0, yes, no, court.things, trace);
                if ((yes & no) == 0 && it.fitting().size() == 1) {
                    list.add(it);
                }
            }
        }
        return list;
    }

    int riddleFor(int suitor, int kind, int what) {
        if (noSuitor(suitor) || kind < 1 || kind > 5 || noTwo(what)) {
            return BAD;
        }
        List<Integer> such = new ArrayList<>();
        for (Riddle it : allFair(kind)) {
            if (court.says(suitor, it) != it.answer()) {
                such.add(32 * it.yes() + it.no());
            }
        }
        return what == 1 ? such.size() : such.isEmpty() ? NONE : such.get(0);
    }

    int hard(int kind, int what) {
        if (court == null) {
            return STATE;
        }
        if (kind < 1 || kind > 5 || noTwo(what)) {
            return BAD;
        }
        List<Riddle> fair = allFair(kind);
        for (int many = 4; many >= 0; many--) {
            for (Riddle it : fair) {
                int fail = 0;
                for (int suitor = 0; suitor < court.suitors.size(); suitor++) {
                    boolean comes = court.suitors.get(suitor).fate == 0;
                    fail += comes && court.says(suitor, it) != it.answer() ? 1 : 0;
                }
                if (fail == many) {
                    return what == 0 ? 32 * it.yes() + it.no() : many;
                }
            }
        }
        return NONE;
    }

    /** All rows of n unlike ones of a list. */
    private static List<List<Riddle>> allRows(List<Riddle> of, int n) {
        List<List<Riddle>> all = new ArrayList<>();
        if (n == 0) {
            all.add(new ArrayList<>());
            return all;
        }
        for (List<Riddle> shorter : allRows(of, n - 1)) {
            for (Riddle last : of) {
                if (!shorter.contains(last)) {
                    List<Riddle> longer = new ArrayList<>(shorter);
                    longer.add(last);
                    all.add(longer);
                }
            }
        }
        return all;
    }

    int chance(int suitor, int what) {
        if (noSuitor(suitor) || noTwo(what)) {
            return BAD;
        }
        if (court.suitors.get(suitor).fate != 0) {
            return STATE;
        }
        int wed = 0, all = 0;
        for (List<Riddle> row : allRows(court.unused(), 3 - court.suitors.get(suitor).right)) {
            boolean good = true;
            for (Riddle it : row) {
                good &= court.says(suitor, it) == it.answer();
            }
            all++;
            wed += good ? 1 : 0;
        }
        if (all == 0) {
            return NONE;
        }
        int by = java.math.BigInteger.valueOf(wed).gcd(java.math.BigInteger.valueOf(all)).intValue();
        return what == 0 ? wed / by : all / by;
    }

    int toBuy(int suitor, int what) {
        if (noSuitor(suitor) || noTwo(what)) {
            return BAD;
        }
        int set = 0, cost = 0;
        for (int thing = 0; thing < court.things.size(); thing++) {
            boolean answers = false;
            for (Riddle it : court.unused()) {
                answers |= it.answer() == thing;
            }
            if (answers && !has(court.suitors.get(suitor).knows, thing)) {
                set |= 1 << thing;
                cost += court.cost(thing);
            }
        }
        return what == 0 ? set : cost;
    }

    int beats() {
        if (court == null) {
            return STATE;
        }
        List<Integer> such = new ArrayList<>();
        for (Riddle it : court.unused()) {
            if (court.sheSays(it) != it.answer()) {
                such.add(it.number());
            }
        }
        return bits(such);
    }

    int tree(int things, int what) {
        if (court == null) {
            return STATE;
        }
        if (things < 0 || things >= 1 << court.things.size() || noTwo(what)) {
            return BAD;
        }
        List<Integer> traits = new ArrayList<>();
        for (int thing = 0; thing < court.things.size(); thing++) {
            if (has(things, thing)) {
                if (traits.contains(court.things.get(thing))) {
                    return NONE;
                }
                traits.add(court.things.get(thing));
            }
        }
        for (int times = 0; times <= 5; times++) {
            if (enough(traits, times)) {
                return what == 0 ? times : firstTrait(traits, times);
            }
        }
        throw new IllegalStateException("five traits tell all unlike things apart");
    }

    private static boolean enough(List<Integer> traits, int times) {
        return traits.size() <= 1 || times > 0 && firstTrait(traits, times) != NONE;
    }

    private static int firstTrait(List<Integer> traits, int times) {
        for (int trait = 0; trait < 5 && times > 0; trait++) {
            List<Integer> with = new ArrayList<>(), without = new ArrayList<>();
            for (int one : traits) {
                (has(one, trait) ? with : without).add(one);
            }
            if (enough(with, times - 1) && enough(without, times - 1)) {
                return trait;
            }
        }
        return NONE;
    }

    int said(int suitor, int row, int i, int n, int what) {
        if (noSuitor(suitor) || row < 0 || row > 7 || n < 1 || n > 6 || noTwo(what)) {
            return BAD;
        }
        if (rows[row] == null) {
            return found(1);
        }
        if (i < 0 || (long) i + n > rows[row].length) {
            return found(2);
        }
        for (int k = 0; k < n; k++) {
            if (rows[row][i + k] != -1 && noThing(rows[row][i + k])) {
                return BAD;
            }
        }
        int ways = 0, each = 63;
        for (List<Riddle> asked : allRows(court.riddles, n)) {
            boolean so = true;
            int set = 0;
            for (int k = 0; k < n; k++) {
                int word = court.says(suitor, asked.get(k));
                so &= (word == NONE ? -1 : word) == rows[row][i + k];
                set |= 1 << asked.get(k).number();
            }
            if (so) {
                ways++;
                each &= set;
            }
        }
        return fine(what == 0 ? ways : ways == 0 ? 0 : each);
    }

    int image(int k) {
        if (noTwo(k)) {
            return BAD;
        }
        if (court == null) {
            return STATE;
        }
        images[k] = court.copy();
        return 1;
    }

    int restore(int k) {
        if (noTwo(k)) {
            return BAD;
        }
        if (images[k] == null) {
            return STATE;
        }
        court = images[k].copy();
        acts.clear();
        return 1;
    }

    // ---- asked

    int kind(int riddle) {
        if (noRiddle(riddle)) {
            return BAD;
        }
        for (int kind = 5; kind > 0; kind--) {
            if (kind != 4 && kind != 1 && isA(court.riddles.get(riddle), kind)) {
                return kind;
            }
        }
        return isA(court.riddles.get(riddle), 4) ? 4 : 1;
    }

    int as(int riddle, int kind) {
        if (noRiddle(riddle) || kind < 0 || kind > 5) {
            return BAD;
        }
        return isA(court.riddles.get(riddle), kind) ? fine(riddle) : found(3);
    }

    int ask(int riddle, int what) {
        if (noRiddle(riddle) || noTwo(what)) {
            return BAD;
        }
        trace.clear();
        return what == 0 ? court.riddles.get(riddle).size() : court.riddles.get(riddle).mark();
    }

    int trace(int i) {
        return i < 0 || i >= Math.min(16, trace.size()) ? NONE : trace.get(i);
    }

    int count(int what) {
        int many = 0;
        switch (what) {
            case 0:
                for (int[] row : rows) {
                    many += row != null ? 1 : 0;
                }
                return many;
            case 1:
                return court == null ? 0 : court.things.size();
            case 2:
                return court == null ? 0 : court.riddles.size();
            case 3:
                return court == null ? 0 : court.suitors.size();
            case 4:
                for (int riddle = 0; riddle < 6; riddle++) {
                    many |= court != null && court.used[riddle] ? 1 << riddle : 0;
                }
                return many;
            case 5:
                for (int suitor = 0; !noSuitor(suitor); suitor++) {
                    many += court.suitors.get(suitor).fate == 1 ? 1 : 0;
                }
                return many;
            case 6:
                return court == null ? 0 : court.paid;
            case 7:
                return court == null ? 0 : court.she;
            case 8:
                return acts.size();
            case 9:
                return tape.length();
            default:
                return BAD;
        }
    }

    int status() {
        return status;
    }
}
