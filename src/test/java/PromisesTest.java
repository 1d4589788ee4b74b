// Each promise of the document: ordinary inputs, the edges it names, and wrong inputs.
public final class PromisesTest {
    private static int wrong = 0;
    private static String promise = "";

    private static void due(String call, int got, int want) {
        if (got != want) {
            wrong++;
            System.out.println(promise + ": " + call + " answered " + got + ", due is " + want);
        }
    }

    private static void due(String call, boolean got, boolean want) {
        due(call, got ? 1 : 0, want ? 1 : 0);
    }

    private static final int[] OUTSIDE_STATES = {-1, 6, 7, 31, 32, 33, 64, -32, Integer.MIN_VALUE, Integer.MAX_VALUE};

    private static void write(ModalJudge x, int... tokens) {
        x.wipe();
        for (int t : tokens) {
            x.token(t);
        }
    }

    private static void dueSound(boolean want, int... tokens) {
        ModalJudge x = new ModalJudge();
        write(x, tokens);
        String text = "of " + java.util.Arrays.toString(tokens);
        due("sound() " + text, x.sound(), want);
        if (!want) {
            due("set() " + text, x.set(), ModalJudge.UNSOUND);
            due("depth() " + text, x.depth(), ModalJudge.UNSOUND);
            for (int s = 0; s < 6; s++) {
                due("holds(" + s + ") " + text, x.holds(s), false);
            }
        }
    }

    private static void dueSet(ModalJudge x, int want, int... tokens) {
        write(x, tokens);
        due("set() of " + java.util.Arrays.toString(tokens), x.set(), want);
    }

    private static void dueDepth(int want, int... tokens) {
        ModalJudge x = new ModalJudge();
        write(x, tokens);
        due("depth() of " + java.util.Arrays.toString(tokens), x.depth(), want);
    }

    // 0 -> 1 -> 2 -> 0, 2 -> 3, 3 -> 3, 4 -> 5; mark 0 {3}, mark 1 {0, 1}, mark 2 {1, 5}
    private static ModalJudge system() {
        ModalJudge x = new ModalJudge();
        x.step(0, 1, true);
        x.step(1, 2, true);
        x.step(2, 0, true);
        x.step(2, 3, true);
        x.step(3, 3, true);
        x.step(4, 5, true);
        x.mark(0, 0b001000);
        x.mark(1, 0b000011);
        x.mark(2, 0b100010);
        return x;
    }

    private static void newObject() {
        promise = "promise 1";
        ModalJudge x = new ModalJudge();
        for (int s = 0; s < 6; s++) {
            due("steps(" + s + ")", x.steps(s), 0);
        }
        due("sound()", x.sound(), false);
        due("set()", x.set(), ModalJudge.UNSOUND);
        due("depth()", x.depth(), ModalJudge.UNSOUND);
        due("turn()", x.turn(), 0);
        due("wipe()", x.wipe(), 0);
        for (int i = 0; i < 3; i++) {
            dueSet(x, 0, i);
            dueSet(x, 63, 3 + i);
        }
        ModalJudge other = system();
        other.token(0);
        due("wipe() beside another object", x.wipe(), 1);
        due("steps(0) beside another object", x.steps(0), 0);
    }

    private static void step() {
        promise = "promise 2";
        ModalJudge x = new ModalJudge();
        for (int s = 0; s < 6; s++) {
            for (int t = 0; t < 6; t++) {
                due("step(" + s + ", " + t + ", true)", x.step(s, t, true), true);
                due("steps(" + s + ")", x.steps(s), (2 << t) - 1);
            }
        }
        due("step(2, 4, true) again", x.step(2, 4, true), true);
        due("steps(2)", x.steps(2), 63);
        due("step(2, 4, false)", x.step(2, 4, false), true);
        due("steps(2)", x.steps(2), 47);
        due("step(2, 4, false) again", x.step(2, 4, false), true);
        due("steps(2)", x.steps(2), 47);
        due("steps(4)", x.steps(4), 63);
        for (int bad : OUTSIDE_STATES) {
            for (int good = 0; good < 6; good++) {
                due("step(" + bad + ", " + good + ", false)", x.step(bad, good, false), false);
                due("step(" + good + ", " + bad + ", false)", x.step(good, bad, false), false);
            }
            due("step(" + bad + ", " + bad + ", false)", x.step(bad, bad, false), false);
            for (int s = 0; s < 6; s++) {
                due("steps(" + s + ") after a refusal", x.steps(s), s == 2 ? 47 : 63);
            }
            x = fullSystem();
        }
        x = new ModalJudge();
        for (int bad : OUTSIDE_STATES) {
            due("step(" + bad + ", 0, true)", x.step(bad, 0, true), false);
            due("step(0, " + bad + ", true)", x.step(0, bad, true), false);
        }
        for (int s = 0; s < 6; s++) {
            due("steps(" + s + ") after refusals", x.steps(s), 0);
        }
    }

    private static ModalJudge fullSystem() {
        ModalJudge x = new ModalJudge();
        for (int s = 0; s < 6; s++) {
            for (int t = 0; t < 6; t++) {
                x.step(s, t, s != 2 || t != 4);
            }
        }
        return x;
    }

    private static void mark() {
        promise = "promise 3";
        for (int i = 0; i < 3; i++) {
            ModalJudge x = new ModalJudge();
            x.token(i);
            for (int set = 63; set >= 0; set--) {
                due("mark(" + i + ", " + set + ")", x.mark(i, set), true);
                due("set() of mark " + i, x.set(), set);
            }
            due("mark(" + i + ", 21)", x.mark(i, 21), true);
            for (int bad : new int[] {-1, 64, 65, 127, Integer.MIN_VALUE, Integer.MAX_VALUE}) {
                due("mark(" + i + ", " + bad + ")", x.mark(i, bad), false);
                due("set() after a refusal", x.set(), 21);
            }
            for (int bad : new int[] {-1, 3, 4, Integer.MIN_VALUE, Integer.MAX_VALUE}) {
                due("mark(" + bad + ", 5)", x.mark(bad, 5), false);
                due("mark(" + bad + ", 64)", x.mark(bad, 64), false);
                due("set() after a refusal", x.set(), 21);
            }
            for (int j = 0; j < 3; j++) {
                dueSet(x, j == i ? 21 : 0, j);
            }
        }
    }

    private static void token() {
        promise = "promise 4";
        for (int t = 0; t <= 18; t++) {
            ModalJudge x = new ModalJudge();
            for (int n = 1; n <= 12; n++) {
                due("token(" + t + ")", x.token(t), n);
            }
            due("token(" + t + ") as the 13th", x.token(t), ModalJudge.FULL);
            due("wipe()", x.wipe(), 12);
            due("token(" + t + ") after wipe", x.token(t), 1);
        }
        ModalJudge x = new ModalJudge();
        for (int bad : new int[] {-1, -2, 19, 20, Integer.MIN_VALUE, Integer.MAX_VALUE}) {
            due("token(" + bad + ")", x.token(bad), ModalJudge.BAD);
        }
        due("token(0) after refusals", x.token(0), 1);
        due("token(19)", x.token(19), ModalJudge.BAD);
        due("sound() after a refusal", x.sound(), true);
    }

    private static void wipe() {
        promise = "promise 5";
        ModalJudge x = system();
        for (int n = 0; n <= 12; n++) {
            for (int k = 0; k < n; k++) {
                x.token(k + 3);
            }
            due("wipe()", x.wipe(), n);
            due("wipe() again", x.wipe(), 0);
            due("sound() after wipe", x.sound(), false);
            due("turn() after wipe", x.turn(), 0);
        }
        dueSet(x, 0b001000, 0);
        due("steps(2) after wipe", x.steps(2), 0b001001);
    }

    private static void turn() {
        promise = "promise 6";
        int[] counterpart = {3, 4, 5, 0, 1, 2, 7, 6, 9, 8, 13, 14, 15, 10, 11, 12};
        for (int t = 0; t <= 18; t++) {
            ModalJudge x = new ModalJudge();
            x.token(t);
            due("turn() of " + t, x.turn(), t < 16 ? 1 : 0);
            due("turn() of " + t + " again", x.turn(), t < 16 ? 1 : 0);
        }
        // A formula and what it must turn into are told apart in the system by their sets.
        int[][] behind = {{}, {}, {}, {}, {}, {}, {0, 1}, {0, 1}, {0}, {0},
            {7, 0, 16}, {7, 0, 17}, {7, 0, 18}, {7, 0, 16}, {7, 0, 17}, {7, 0, 18}};
        for (int t = 0; t < 16; t++) {
            ModalJudge x = system();
            x.mark(0, 0b010001);
            x.token(t);
            ModalJudge y = system();
            y.mark(0, 0b010001);
            y.token(counterpart[t]);
            for (int b : behind[t]) {
                x.token(b);
                y.token(b < 16 ? counterpart[b] : b);
            }
            due("turn() with " + t + " in front", x.turn(), behind[t].length + (t >= 10 ? 0 : 1));
            due("set() of the turned formula with " + t + " in front", x.set(), y.set());
            due("depth() of the turned formula with " + t + " in front", x.depth(), y.depth());
        }
        ModalJudge x = new ModalJudge();
        write(x, 16, 17, 18, 0, 3, 6, 7, 8, 9, 10, 15, 16);
        due("turn() of an unsound formula", x.turn(), 8);
        due("wipe() after turn", x.wipe(), 12);
        // The turned formula holds just where the formula does not.
        x = system();
        dueSet(x, 15, 10, 7, 0, 8, 16);
        due("turn()", x.turn(), 4);
        due("set() turned", x.set(), 48);
        due("turn()", x.turn(), 4);
        due("set() turned twice", x.set(), 15);
    }

    private static void sound() {
        promise = "promise 7";
        dueSound(false);
        for (int t = 0; t <= 18; t++) {
            dueSound(t < 6, t);
            dueSound(t == 8 || t == 9 || t >= 10 && t < 16, t, 0);
            dueSound(t == 6 || t == 7, t, 0, 0);
            dueSound(false, t, 6);
            dueSound(false, 0, t);
        }
        for (int i = 0; i < 3; i++) {
            for (int j = 0; j < 3; j++) {
                dueSound(i == j, 10 + i, 16 + j);
                dueSound(i == j, 13 + i, 8, 16 + j);
                dueSound(i == j, 6, 0, 10 + i, 9, 16 + j);
                dueSound(false, 6, 10 + i, 16 + i, 16 + j);
                dueSound(false, 6, 16 + j, 10 + i, 16 + i);
                dueSound(i == j, 13 + i, 6, 10 + j, 16 + j, 16 + j);
            }
        }
        dueSound(true, 10, 6, 13, 16, 16);
        dueSound(true, 10, 11, 6, 16, 17);
        dueSound(false, 6, 10, 11, 6, 16, 17, 17);
        dueSound(true, 6, 6, 6, 6, 6, 0, 1, 2, 3, 4, 5);
        dueSound(false, 6, 6, 6, 6, 6, 6, 0, 1, 2, 3, 4, 5);
        dueSound(false, 6, 6, 6, 6, 6, 0, 1, 2, 3, 4, 5, 0);
        dueSound(true, 8, 6, 6, 6, 6, 6, 0, 1, 2, 3, 4, 5);
        dueSound(false, 6, 6, 6, 6, 6, 6, 6, 6, 6, 6, 6, 6);
        dueSound(true, 8, 9, 8, 9, 8, 9, 8, 9, 8, 9, 8, 0);
        dueSound(false, 8, 9, 8, 9, 8, 9, 8, 9, 8, 9, 8, 9);
        dueSound(true, 10, 11, 12, 13, 16);
        dueSound(true, 10, 11, 12, 13, 0);
        dueSound(false, 10, 11, 12, 13, 14, 16);
        dueSound(false, 10, 10, 10, 10, 10, 0);
        dueSound(true, 6, 6, 10, 16, 11, 17, 6, 12, 18, 15, 18);
        dueSound(false, 6, 10, 11, 0, 6, 12, 0, 6, 14, 0, 13, 0);
        dueSound(true, 6, 10, 11, 0, 6, 12, 0, 6, 8, 0, 13, 0);
        ModalJudge x = new ModalJudge();
        x.token(10);
        due("sound() of a formula not ended", x.sound(), false);
        x.token(16);
        due("sound() when it is ended", x.sound(), true);
        x.token(16);
        due("sound() when it goes on", x.sound(), false);
    }

    private static void holds() {
        promise = "promise 8";
        ModalJudge x = new ModalJudge();
        for (int set = 0; set < 64; set++) {
            x = new ModalJudge();
            x.mark(1, set);
            x.token(1);
            for (int s = 0; s < 6; s++) {
                due("holds(" + s + ")", x.holds(s), (set >> s & 1) == 1);
            }
        }
        for (int bad : OUTSIDE_STATES) {
            due("holds(" + bad + ") in all states", x.holds(bad), false);
            due("holds(0)", x.holds(0), true);
        }
        x.token(1);
        for (int s = -1; s < 7; s++) {
            due("holds(" + s + ") unsound", x.holds(s), false);
        }
    }

    private static void set() {
        promise = "promise 9";
        ModalJudge x = system();
        dueSet(x, 0b001000, 0);
        dueSet(x, 0b000011, 1);
        dueSet(x, 0b100010, 2);
        dueSet(x, 0b110111, 3);
        dueSet(x, 0b111100, 4);
        dueSet(x, 0b011101, 5);
        dueSet(x, 0b000010, 6, 1, 2);
        dueSet(x, 0b100011, 7, 1, 2);
        dueSet(x, 0b000101, 8, 1);
        dueSet(x, 0b001100, 8, 0);
        dueSet(x, 0b100001, 9, 1);
        dueSet(x, 0b111001, 9, 7, 0, 2);
        dueSet(x, 0b100000, 9, 6, 0, 3);
        // Terms of unequal length on either side of and, or.
        dueSet(x, 0b001001, 7, 6, 1, 5, 0);
        dueSet(x, 0b001001, 7, 0, 6, 1, 5);
        dueSet(x, 0b000010, 6, 8, 8, 0, 1);
        // A step to a state in mark 0 can be reached; mark 0 is never left; ways end.
        dueSet(x, 0b001111, 10, 7, 0, 8, 16);
        dueSet(x, 0b001000, 13, 6, 0, 8, 16);
        dueSet(x, 0b001111, 13, 8, 16);
        dueSet(x, 0, 10, 8, 16);
        dueSet(x, 63, 13, 9, 16);
        dueSet(x, 0b110000, 10, 9, 16);
        for (int i = 0; i < 3; i++) {
            dueSet(x, 0, 10 + i, 16 + i);
            dueSet(x, 63, 13 + i, 16 + i);
            dueSet(x, 8, 10 + i, 0);
            dueSet(x, 8, 13 + i, 0);
        }
        // The innermost binder is the one that counts, and the outer one is back behind it.
        dueSet(x, 63, 10, 13, 16);
        dueSet(x, 0, 13, 10, 16);
        dueSet(x, 0, 10, 6, 13, 16, 16);
        dueSet(x, 63, 13, 7, 10, 16, 16);
        dueSet(x, 0, 13, 6, 10, 16, 16);
        innerStartsAfresh();
        longWay();
        x = system();
        write(x, 6, 0);
        due("set() unsound", x.set(), ModalJudge.UNSOUND);
        x.token(0);
        due("set() once it is sound", x.set(), 8);
        x.mark(0, 7);
        due("set() after mark", x.set(), 7);
        due("set() again", x.set(), 7);
    }

    // 0 and 1 step to each other, and 0 to 2, which has mark 0 and no steps. "Mark 0 is met
    // without end" holds nowhere, but 0 and 1 stay in the inner least set if it is kept from
    // the outer one's first round; likewise they stay out of the greatest set when turned.
    private static void innerStartsAfresh() {
        ModalJudge x = new ModalJudge();
        x.step(0, 1, true);
        x.step(1, 0, true);
        x.step(0, 2, true);
        x.mark(0, 0b000100);
        dueSet(x, 0, 13, 11, 8, 7, 6, 0, 16, 17);
        dueSet(x, 63, 10, 14, 9, 6, 7, 3, 16, 17);
        // The same with a binder between the two, and with the inner term in front of another.
        dueSet(x, 0, 13, 15, 11, 8, 7, 6, 0, 16, 17);
        dueSet(x, 63, 10, 12, 14, 9, 6, 7, 3, 16, 17);
        dueSet(x, 0b000100, 7, 13, 11, 8, 7, 6, 0, 16, 17, 0);
        dueSet(x, 0b111011, 6, 10, 14, 9, 6, 7, 3, 16, 17, 3);
        x.step(2, 0, true);
        dueSet(x, 0b000111, 13, 11, 8, 7, 6, 0, 16, 17);
        dueSet(x, 0b111000, 10, 14, 9, 6, 7, 3, 16, 17);
    }

    // A fixed point that needs a round for each of the six states, alone and nested.
    private static void longWay() {
        ModalJudge x = new ModalJudge();
        for (int s = 0; s < 5; s++) {
            x.step(s, s + 1, true);
        }
        x.mark(0, 0b100000);
        dueSet(x, 63, 10, 7, 0, 8, 16);
        dueSet(x, 63, 10, 9, 16);
        dueSet(x, 0, 13, 8, 16);
        dueSet(x, 0, 13, 6, 3, 8, 16);
        dueSet(x, 63, 10, 11, 12, 10, 7, 0, 8, 7, 16, 18);
        dueSet(x, 0, 13, 14, 15, 13, 6, 3, 8, 6, 16, 18);
        dueSet(x, 63, 13, 11, 15, 10, 7, 0, 8, 16);
        dueSet(x, 0, 10, 14, 12, 13, 6, 3, 8, 16);
    }

    private static void depth() {
        promise = "promise 10";
        dueDepth(0, 0);
        dueDepth(0, 6, 8, 0, 9, 1);
        for (int t = 10; t < 16; t++) {
            dueDepth(1, t, 0);
            dueDepth(2, t, t, 0);
            dueDepth(1, 8, t, 9, 0);
            dueDepth(1, 6, t, 0, t, 0);
            dueDepth(2, t, 6, t, 0, t, 0);
            dueDepth(3, t, t, 8, t, 0);
            dueDepth(4, t, 8, t, t, 9, t, 0);
        }
        dueDepth(1, 6, 6, 10, 16, 11, 17, 6, 12, 18, 15, 18);
        dueDepth(2, 6, 10, 16, 6, 0, 11, 13, 17);
        dueDepth(3, 7, 10, 11, 12, 18, 13, 16);
        dueDepth(3, 7, 13, 16, 10, 11, 12, 18);
        dueDepth(2, 7, 13, 14, 16, 10, 11, 17);
        dueDepth(ModalJudge.UNSOUND);
        dueDepth(ModalJudge.UNSOUND, 10);
        dueDepth(ModalJudge.UNSOUND, 16);
        dueDepth(ModalJudge.UNSOUND, 10, 10, 10, 10, 10, 0);
    }

    private static void steps() {
        promise = "promise 11";
        ModalJudge x = system();
        int[] want = {0b000010, 0b000100, 0b001001, 0b001000, 0b100000, 0};
        for (int s = 0; s < 6; s++) {
            due("steps(" + s + ")", x.steps(s), want[s]);
        }
        for (int bad : OUTSIDE_STATES) {
            due("steps(" + bad + ")", x.steps(bad), ModalJudge.BAD);
        }
    }

    private static void orderAndLimits() {
        promise = "promise 12";
        ModalJudge x = new ModalJudge();
        for (int n = 1; n <= 11; n++) {
            x.token(8);
        }
        due("token(19) as the 12th", x.token(19), ModalJudge.BAD);
        due("token(0) as the 12th", x.token(0), 12);
        for (int t : new int[] {-1, 19, Integer.MIN_VALUE, Integer.MAX_VALUE, 0, 18}) {
            due("token(" + t + ") as the 13th", x.token(t), ModalJudge.FULL);
        }
        due("sound() after FULL", x.sound(), true);
        due("wipe() after FULL", x.wipe(), 12);
        due("token(19) after wipe", x.token(19), ModalJudge.BAD);
    }

    public static void main(String[] args) {
        newObject();
        step();
        mark();
        token();
        wipe();
        turn();
        sound();
        holds();
        set();
        depth();
        steps();
        orderAndLimits();
        System.out.println(wrong == 0 ? "all answers are as due" : wrong + " answers are not as due");
        if (wrong != 0) {
            System.exit(1);
        }
    }
}
