import java.lang.reflect.InvocationTargetException;
import java.lang.reflect.Method;
import java.lang.reflect.Modifier;
import java.util.ArrayList;
import java.util.Arrays;
import java.util.Comparator;
import java.util.List;

/**
 * All calls with all edge numbers in all their places, in several states, on the class and on the
 * model; and that no call ever throws, whatever it is given.
 */
public final class GridTest {
    private static final int[] FEW = {Integer.MIN_VALUE, -1, 0, 1, 2, 6, 7, 8, Integer.MAX_VALUE};
    private static final int[] MANY = {Integer.MIN_VALUE, -129, -128, -2, -1, 0, 1, 2, 3, 4, 5, 6, 7, 8, 9, 10, 15, 16,
        31, 32, 39, 40, 41, 63, 64, 119, 120, 127, 128, 255, 256, 32767, 32768, 65535, Integer.MAX_VALUE};
    /** An object is used for 512 calls at most: the states below take up to 200 of them. */
    private static final int CALLS = 300;

    private static final List<Method> FACE = new ArrayList<>();
    private static int answers;
    private static int wrong;

    private final int state;
    private ThreeRiddles real;
    private Model model;
    private int calls;

    private GridTest(int state) {
        this.state = state;
        renew();
    }

    public static void main(String[] args) throws Exception {
        for (Method method : ThreeRiddles.class.getDeclaredMethods()) {
            if (Modifier.isPublic(method.getModifiers())) {
                FACE.add(method);
            }
        }
        FACE.sort(Comparator.comparing(Method::getName));
        for (int state = 0; state < 5; state++) {
            for (Method method : FACE) {
                int places = method.getParameterCount();
                new GridTest(state).grid(method, places > 2 ? FEW : MANY, new Object[places], 0);
            }
        }
        System.out.println(answers + " answers, " + wrong + " not as due");
        if (wrong != 0 || answers == 0) {
            System.exit(1);
        }
    }

    private void grid(Method method, int[] numbers, Object[] given, int place) throws Exception {
        if (place == given.length) {
            compare(method, given);
            return;
        }
        for (int number : numbers) {
            given[place] = number;
            grid(method, numbers, given, place + 1);
        }
    }

    private void compare(Method method, Object[] given) throws Exception {
        if (calls >= CALLS) {
            renew();
        }
        calls += 3;
        due(method, given);
        due(ThreeRiddles.class.getMethod("status"));
        due(ThreeRiddles.class.getMethod("count", int.class), answers % 10);
    }

    private void due(Method method, Object... given) throws Exception {
        Method other = Model.class.getDeclaredMethod(method.getName(), method.getParameterTypes());
        Object want = other.invoke(model, given);
        Object got;
        try {
            got = method.invoke(real, given);
        } catch (InvocationTargetException e) {
            got = e.getCause();
        }
        answers++;
        if (!want.equals(got)) {
            wrong++;
            System.out.println("state " + state + ": " + method.getName() + Arrays.toString(given) + " answered "
                    + got + ", due is " + want);
        }
    }

    // ---- states

    private void renew() {
        real = new ThreeRiddles();
        model = new Model();
        calls = 0;
        switch (state) {
            case 0 -> { }
            case 1 -> told("k0,0;");
            case 2 -> rows();
            case 3 -> acts();
            default -> wedding();
        }
    }

    private void told(String text) {
        for (char letter : text.toCharArray()) {
            real.feed(letter);
            model.feed(letter);
        }
        real.court();
        model.court();
    }

    private void rows() {
        told(Due.COURT);
        for (int row = 0; row < 8; row++) {
            if (row != 2) {
                int lane = row < 3 ? 0 : row % 3, n = row == 1 ? 0 : row + 1;
                real.row(row, lane, n);
                model.row(row, lane, n);
                for (int i = 0; i < n && i < 3; i++) {
                    real.set(row, i, i - 1);
                    model.set(row, i, i - 1);
                }
            }
        }
    }

    /** One is DEAD, one FREE, one asked IN TURN; the first IMAGE is kept. */
    private void acts() {
        rows();
        real.image(0);
        model.image(0);
        int[][] made = {{0, 3, 0}, {0, 0, 3}, {1, 2, 4}, {1, 0, 2}, {2, 1, 1}};
        for (int[] act : made) {
            switch (act[0]) {
                case 0 -> {
                    real.asked(act[1], act[2]);
                    model.asked(act[1], act[2]);
                }
                case 1 -> {
                    real.inTurn(act[1], act[2]);
                    model.inTurn(act[1], act[2]);
                }
                default -> {
                    real.buy(act[1], act[2]);
                    model.buy(act[1], act[2]);
                }
            }
        }
        real.ask(1, 0);
        model.ask(1, 0);
    }

    private void wedding() {
        rows();
        for (int riddle = 2; riddle < 5; riddle++) {
            real.asked(0, riddle);
            model.asked(0, riddle);
        }
    }
}
