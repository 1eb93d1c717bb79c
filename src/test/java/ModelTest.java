import java.util.ArrayList;
import java.util.List;
import java.util.Random;

/** All promises: runs of up to 512 calls, drawn from fixed seeds, on the class and on the model. */
public final class ModelTest {
    private static final int RUNS = 1500, CALLS = 512;

    private final Random random;
    private final int seed;
    private final ThreeRiddles real = new ThreeRiddles();
    private final Model model = new Model();
    private final List<String> calls = new ArrayList<>();
    private boolean wrong;

    private ModelTest(int seed) {
        this.seed = seed;
        this.random = new Random(seed);
    }

    public static void main(String[] args) {
        int wrongRuns = 0;
        for (int seed = 0; seed < RUNS; seed++) {
            ModelTest run = new ModelTest(seed);
            run.go();
            wrongRuns += run.wrong ? 1 : 0;
        }
        System.out.println(RUNS + " runs, " + wrongRuns + " not as due");
        if (wrongRuns != 0) {
            System.exit(1);
        }
    }

    private void go() {
        while (calls.size() < CALLS && !wrong) {
            if (random.nextInt(60) == 0) {
                tell(random.nextInt(3) == 0 ? spoiled(text()) : text());
            } else if (random.nextInt(100) == 0) {
                check();
            } else {
                step();
            }
        }
    }

    private void due(String call, int got, int want) {
        calls.add(call);
        if (got != want && !wrong) {
            wrong = true;
            System.out.println("seed " + seed + ": " + String.join(" ", calls)
                    + " answered " + got + ", due is " + want);
        }
    }

    // ---- texts

    private String text() {
        StringBuilder text = new StringBuilder();
        text.append('k').append(random.nextInt(256)).append(',').append(random.nextInt(100)).append(';');
        int things = Math.min(8, random.nextInt(11));
        int traits = random.nextInt(4) == 0 ? 8 : 32;
        for (int thing = 0; thing < things; thing++) {
            text.append('t').append(random.nextInt(traits)).append(';');
        }
        int riddles = Math.min(6, random.nextInt(10));
        for (int riddle = 0; riddle < riddles; riddle++) {
            int yes = random.nextInt(traits) & random.nextInt(32);
            int no = random.nextInt(traits) & random.nextInt(32) & ~yes;
            text.append("pdglu".charAt(random.nextInt(5))).append(yes).append(',').append(no).append(';');
        }
        int suitors = Math.min(4, random.nextInt(7));
        for (int suitor = 0; suitor < suitors; suitor++) {
            int knows = random.nextInt(3) == 0 ? (1 << things) - 1 : random.nextInt(1 << things);
            text.append('w').append(knows).append(';');
        }
        return text.toString();
    }

    private String spoiled(String text) {
        StringBuilder spoiled = new StringBuilder(text);
        int at = random.nextInt(spoiled.length());
        String some = "ktpdgluw,;0123456789aA /:~";
        char c = some.charAt(random.nextInt(some.length()));
        switch (random.nextInt(5)) {
            case 0 -> spoiled.deleteCharAt(at);
            case 1 -> spoiled.insert(at, c);
            case 2 -> spoiled.setCharAt(at, c);
            case 3 -> spoiled.setLength(at);
            default -> {
                int part = spoiled.lastIndexOf(";", at) + 1;
                int end = spoiled.indexOf(";", at) + 1;
                String again = spoiled.substring(part < end ? part : 0, end > 0 ? end : at);
                for (int times = random.nextInt(9); times > 0; times--) {
                    spoiled.insert(part, again);
                }
            }
        }
        return spoiled.toString();
    }

    private void tell(String text) {
        for (int i = 0; i < text.length(); i++) {
            int letter = text.charAt(i);
            due("feed(" + letter + ")", real.feed(letter), model.feed(letter));
        }
        due("court()", real.court(), model.court());
        due("fault()", real.fault(), model.fault());
    }

    // ---- calls

    /** Mostly 0 .. most, now and then beside these. */
    private int near(int most) {
        int draw = random.nextInt(60);
        if (draw == 0) {
            int[] far = {Integer.MIN_VALUE, Integer.MAX_VALUE, -1, most + 1};
            return far[random.nextInt(far.length)];
        }
        return random.nextInt(most + (draw < 4 ? 2 : 1)) - (draw == 1 ? 1 : 0);
    }

    private void step() {
        switch (random.nextInt(10)) {
            case 0, 1 -> rows();
            case 2, 3, 4 -> acts();
            case 5 -> look();
            case 6, 7 -> foretold();
            case 8 -> said();
            default -> asks();
        }
    }

    private void rows() {
        int a = near(7), b = near(7), i = near(8), j = near(8), n = near(6);
        switch (random.nextInt(8)) {
            case 0 -> {
                int lane = near(2), items = random.nextInt(4) == 0 ? near(40) : near(8);
                due("row(" + a + "," + lane + "," + items + ")", real.row(a, lane, items), model.row(a, lane, items));
            }
            case 1 -> due("drop(" + a + ")", real.drop(a), model.drop(a));
            case 2, 3 -> due("copy(" + a + "," + i + "," + b + "," + j + "," + n + ")",
                    real.copy(a, i, b, j, n), model.copy(a, i, b, j, n));
            default -> {
                int v = random.nextInt(5) == 0 ? random.nextInt() : near(8) - 1;
                due("set(" + a + "," + i + "," + v + ")", real.set(a, i, v), model.set(a, i, v));
            }
        }
        due("status()", real.status(), model.status());
    }

    private void acts() {
        int suitor = near(3), riddle = near(5), thing = near(7), k = near(1);
        switch (random.nextInt(12)) {
            case 0, 1, 2 -> due("asked(" + suitor + "," + riddle + ")",
                    real.asked(suitor, riddle), model.asked(suitor, riddle));
            case 3 -> due("inTurn(" + suitor + "," + riddle + ")",
                    real.inTurn(suitor, riddle), model.inTurn(suitor, riddle));
            case 4, 5, 6, 7, 8 -> due("buy(" + suitor + "," + thing + ")",
                    real.buy(suitor, thing), model.buy(suitor, thing));
            case 9 -> due("undo()", real.undo(), model.undo());
            case 10 -> due("image(" + k + ")", real.image(k), model.image(k));
            default -> {
                if (random.nextInt(4) == 0) {
                    due("restore(" + k + ")", real.restore(k), model.restore(k));
                } else {
                    for (int times = random.nextInt(28); times > 0; times--) {
                        due("undo()", real.undo(), model.undo());
                    }
                }
            }
        }
    }

    private void look() {
        int suitor = near(3), riddle = near(5), thing = near(7), what = near(6), four = near(3), ten = near(9);
        due("thing(" + thing + ")", real.thing(thing), model.thing(thing));
        due("riddle(" + riddle + "," + what + ")", real.riddle(riddle, what), model.riddle(riddle, what));
        due("suitor(" + suitor + "," + four + ")", real.suitor(suitor, four), model.suitor(suitor, four));
        due("says(" + suitor + "," + riddle + ")", real.says(suitor, riddle), model.says(suitor, riddle));
        due("count(" + ten + ")", real.count(ten), model.count(ten));
    }

    private void foretold() {
        int suitor = near(3), kind = random.nextInt(20) == 0 ? near(6) : 1 + near(4), what = near(1);
        switch (random.nextInt(6)) {
            case 0 -> due("riddleFor(" + suitor + "," + kind + "," + what + ")",
                    real.riddleFor(suitor, kind, what), model.riddleFor(suitor, kind, what));
            case 1 -> due("hard(" + kind + "," + what + ")", real.hard(kind, what), model.hard(kind, what));
            case 2 -> due("chance(" + suitor + "," + what + ")", real.chance(suitor, what), model.chance(suitor, what));
            case 3 -> due("toBuy(" + suitor + "," + what + ")", real.toBuy(suitor, what), model.toBuy(suitor, what));
            case 4 -> due("beats()", real.beats(), model.beats());
            default -> {
                int set = near((1 << model.count(1)) - 1);
                due("tree(" + set + "," + what + ")", real.tree(set, what), model.tree(set, what));
            }
        }
    }

    /** Half of the time the row is laid so that it tells what he would say, more or less. */
    private void said() {
        int suitor = near(3), row = near(7), i = near(3), n = 1 + near(5), what = near(1);
        if (random.nextBoolean() && row >= 0 && row < 8 && model.count(2) > 0) {
            int items = Math.min(40, Math.max(0, i) + Math.max(0, n));
            due("row(" + row + ",2," + items + ")", real.row(row, 2, items), model.row(row, 2, items));
            int start = random.nextInt(model.count(2));
            for (int k = 0; k < items; k++) {
                int word = model.says(suitor, (start + k) % model.count(2));
                int v = word == Due.NONE ? -1 : random.nextInt(9) == 0 ? near(7) : word;
                due("set(" + row + "," + k + "," + v + ")", real.set(row, k, v), model.set(row, k, v));
            }
        }
        due("said(" + suitor + "," + row + "," + i + "," + n + "," + what + ")",
                real.said(suitor, row, i, n, what), model.said(suitor, row, i, n, what));
        due("status()", real.status(), model.status());
    }

    private void asks() {
        int riddle = near(5), kind = near(5), what = near(1);
        switch (random.nextInt(3)) {
            case 0 -> due("kind(" + riddle + ")", real.kind(riddle), model.kind(riddle));
            case 1 -> due("as(" + riddle + "," + kind + ")", real.as(riddle, kind), model.as(riddle, kind));
            default -> {
                due("ask(" + riddle + "," + what + ")", real.ask(riddle, what), model.ask(riddle, what));
                for (int i = 0; i < 7; i++) {
                    due("trace(" + i + ")", real.trace(i), model.trace(i));
                }
            }
        }
    }

    /** All that can be looked at. */
    private void check() {
        for (int what = -1; what < 11; what++) {
            due("count(" + what + ")", real.count(what), model.count(what));
        }
        for (int suitor = 0; suitor < 4; suitor++) {
            for (int what = 0; what < 4; what++) {
                due("suitor(" + suitor + "," + what + ")", real.suitor(suitor, what), model.suitor(suitor, what));
            }
        }
        for (int riddle = 0; riddle < 6; riddle++) {
            for (int what = 0; what < 7; what++) {
                due("riddle(" + riddle + "," + what + ")", real.riddle(riddle, what), model.riddle(riddle, what));
            }
        }
    }
}
