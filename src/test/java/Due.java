/** What the tests share: calls compared with what is due, and texts fed byte by byte. */
final class Due {
    static final int NONE = -1000000, BAD = -1000001, STATE = -1000002, FULL = -1000003;
    static final int NULL = -1000011, PLACE = -1000012, KIND = -1000013, SIZE = -1000014, STORE = -1000015;
    static final int FAULT = -1000100;

    /** Six THINGS, a RIDDLE of each SORT and one that nothing FITS, four SUITORS; SHE KNOWS 0, 2, 4. */
    static final String COURT =
            "k21,7;t3;t5;t6;t9;t17;t0;p1,2;d3,4;g6,1;l4,0;u1,4;p31,0;w63;w9;w22;w0;";

    private int wrong;
    private int seen;

    void is(String call, int got, int want) {
        seen++;
        if (got != want) {
            wrong++;
            System.out.println(call + " answered " + got + ", due is " + want);
        }
    }

    void end() {
        System.out.println(seen + " answers, " + wrong + " not as due");
        if (wrong != 0 || seen == 0) {
            System.exit(1);
        }
    }

    static void feed(ThreeRiddles x, String text) {
        for (int i = 0; i < text.length(); i++) {
            x.feed(text.charAt(i));
        }
    }

    static int read(ThreeRiddles x, String text) {
        feed(x, text);
        return x.court();
    }

    static ThreeRiddles told(String text) {
        ThreeRiddles x = new ThreeRiddles();
        int answer = read(x, text);
        if (answer < 0) {
            throw new IllegalStateException("a test's own court is not read: " + text + " gives " + answer);
        }
        return x;
    }
}
