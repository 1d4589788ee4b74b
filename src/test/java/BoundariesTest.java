import java.util.ArrayList;
import java.util.Arrays;
import java.util.List;
import java.util.TreeSet;
import java.util.function.ToIntFunction;

// Each sentence of the document that names a boundary case, with a test of its own: both sides
// of the boundary, the least and the greatest int, and for a call that is refused its answer
// and that no later call shows a trace of it.
public final class BoundariesTest {
    private static final int BAD = -1;
    private static final int FULL = -2;
    private static final int UNSOUND = -3;

    private static int wrong = 0;
    private static int asked = 0;
    private static String sentence = "";

    private static void sentence(String place, String words, Runnable test) {
        sentence = place + ", \"" + words + "\"";
        int before = asked;
        test.run();
        if (asked == before) {
            wrong++;
            System.out.println(sentence + ": nothing was tested");
        }
    }

    private static void due(String call, int got, int want) {
        asked++;
        if (got != want) {
            wrong++;
            System.out.println(sentence + ": " + call + " answered " + got + ", due is " + want);
        }
    }

    private static void due(String call, boolean got, boolean want) {
        due(call, got ? 1 : 0, want ? 1 : 0);
    }

    // Numbers outside a range: its neighbours, the least and the greatest int, and those that
    // fall into it if they are cut to 5, 6, 8, 16 or 31 bits or lose their sign.
    private static int[] outside(int least, int greatest) {
        TreeSet<Integer> numbers = new TreeSet<>();
        int[] shifts = {0, 32, -32, 64, -64, 128, -128, 256, -256, 65536, -65536, Integer.MIN_VALUE};
        for (int shift : shifts) {
            for (int edge : new int[] {least - 1, least, greatest, greatest + 1}) {
                numbers.add(shift + edge);
            }
        }
        numbers.add(-greatest);
        numbers.add(~least);
        numbers.add(~greatest);
        numbers.add(Integer.MIN_VALUE);
        numbers.add(Integer.MAX_VALUE);
        numbers.removeIf(n -> n >= least && n <= greatest);
        return numbers.stream().mapToInt(n -> n).toArray();
    }

    private static final int[] NO_STATES = outside(0, 5);
    private static final int[] NO_MARKS = outside(0, 2);
    private static final int[] NO_SETS = outside(0, 63);
    private static final int[] NO_TOKENS = outside(0, 18);

    private static void write(ModalJudge x, int... tokens) {
        for (int t : tokens) {
            x.token(t);
        }
    }

    private static int[] times(int n, int token, int... behind) {
        int[] tokens = new int[n + behind.length];
        Arrays.fill(tokens, 0, n, token);
        System.arraycopy(behind, 0, tokens, n, behind.length);
        return tokens;
    }

    private static int[] join(int[] front, int... behind) {
        int[] tokens = Arrays.copyOf(front, front.length + behind.length);
        System.arraycopy(behind, 0, tokens, front.length, behind.length);
        return tokens;
    }

    // All four calls that tell whether a formula is sound must agree on it.
    private static void dueSound(boolean want, int... tokens) {
        ModalJudge x = new ModalJudge();
        write(x, tokens);
        String of = " of " + Arrays.toString(tokens);
        due("sound()" + of, x.sound(), want);
        due("set() == UNSOUND" + of, x.set() == UNSOUND, !want);
        due("depth() == UNSOUND" + of, x.depth() == UNSOUND, !want);
        if (!want) {
            for (int s = 0; s < 6; s++) {
                due("holds(" + s + ")" + of, x.holds(s), false);
            }
        }
        due("sound() again" + of, x.sound(), want);
        due("wipe()" + of, x.wipe(), tokens.length);
    }

    private static void dueSet(ModalJudge x, int want, int... tokens) {
        x.wipe();
        write(x, tokens);
        String of = " of " + Arrays.toString(tokens);
        due("set()" + of, x.set(), want);
        for (int s = 0; s < 6; s++) {
            due("holds(" + s + ")" + of, x.holds(s), want != UNSOUND && (want >> s & 1) == 1);
        }
    }

    private static void dueDepth(int want, int... tokens) {
        ModalJudge x = new ModalJudge();
        write(x, tokens);
        due("depth() of " + Arrays.toString(tokens), x.depth(), want);
    }

    // 0 -> 1 -> 2 -> 3 -> 4 -> 5, and 5 has no steps.
    private static ModalJudge chain() {
        ModalJudge x = new ModalJudge();
        for (int s = 0; s < 5; s++) {
            x.step(s, s + 1, true);
        }
        return x;
    }

    // 0 -> 1 -> 2 -> 3 -> 4 -> 5 -> 0
    private static ModalJudge ring() {
        ModalJudge x = chain();
        x.step(5, 0, true);
        return x;
    }

    private static ModalJudge markedChain() {
        ModalJudge x = chain();
        x.mark(0, 1);
        x.mark(1, 6);
        x.mark(2, 40);
        return x;
    }

    // ---- A call that is refused, or only asks, leaves the object as it was.

    private static final int[] ELEVEN = {7, 10, 7, 0, 8, 16, 13, 6, 1, 8, 16};
    private static final int[] TWELVE = {7, 10, 7, 0, 8, 16, 13, 6, 1, 9, 8, 16};

    private static final int[][] SOUND_FORMULAS = {
        {0}, {5}, {10, 7, 0, 8, 16}, {13, 11, 8, 7, 6, 0, 16, 17}, {15, 14, 13, 12, 9, 18},
        ELEVEN, TWELVE};

    private static final int[][] UNSOUND_FORMULAS = {
        {}, {6, 1}, {1, 2}, {10}, {16}, {11, 16}, {10, 11, 12, 13, 14, 0},
        times(11, 8), times(12, 8), times(12, 18), times(11, 6, 0)};

    // The steps and marks: none, all, and some.
    private static final int[][] SYSTEMS = {
        {0, 0, 0, 0, 0, 0, 0, 0, 0}, {63, 63, 63, 63, 63, 63, 63, 63, 63},
        {2, 4, 9, 8, 32, 0, 8, 3, 34}};

    private static ModalJudge object(int[] system, int[] formula) {
        ModalJudge x = new ModalJudge();
        for (int s = 0; s < 6; s++) {
            for (int t = 0; t < 6; t++) {
                x.step(s, t, (system[s] >> t & 1) == 1);
            }
        }
        for (int i = 0; i < 3; i++) {
            x.mark(i, system[6 + i]);
        }
        write(x, formula);
        return x;
    }

    private static void answers(ModalJudge x, List<String> into) {
        into.add("sound() = " + x.sound());
        into.add("set() = " + x.set());
        into.add("depth() = " + x.depth());
        for (int s = 0; s < 6; s++) {
            into.add("holds(" + s + ") = " + x.holds(s));
        }
    }

    // Whatever the calls can show of an object: the steps, the formula as it stands, turned,
    // gone on with and counted, and the marks.
    private static List<String> picture(ModalJudge x) {
        List<String> shown = new ArrayList<>();
        for (int s = 0; s < 6; s++) {
            shown.add("steps(" + s + ") = " + x.steps(s));
        }
        answers(x, shown);
        shown.add("turn() = " + x.turn());
        answers(x, shown);
        for (int t : new int[] {1, 16}) {
            shown.add("token(" + t + ") = " + x.token(t));
            answers(x, shown);
        }
        shown.add("wipe() = " + x.wipe());
        for (int i = 0; i < 3; i++) {
            x.token(i);
            shown.add("set() of mark " + i + " = " + x.set());
            x.wipe();
        }
        return shown;
    }

    private static void dueAndNoTrace(String call, ToIntFunction<ModalJudge> made, int want, int[]... formulas) {
        for (int[] system : SYSTEMS) {
            for (int[] formula : formulas) {
                ModalJudge x = object(system, formula);
                String of = call + " with " + Arrays.toString(formula) + " in " + Arrays.toString(system);
                due(of, made.applyAsInt(x), want);
                due(of + " again", made.applyAsInt(x), want);
                List<String> shown = picture(x);
                List<String> untouched = picture(object(system, formula));
                for (int k = 0; k < shown.size(); k++) {
                    if (!shown.get(k).equals(untouched.get(k))) {
                        wrong++;
                        System.out.println(sentence + ": after " + of + ": " + shown.get(k)
                            + ", without it " + untouched.get(k));
                    }
                }
            }
        }
    }

    private static int asInt(boolean answer) {
        return answer ? 1 : 0;
    }

    private static int[][] formulasBelowTwelve() {
        List<int[]> formulas = new ArrayList<>();
        for (int[][] some : new int[][][] {SOUND_FORMULAS, UNSOUND_FORMULAS}) {
            for (int[] formula : some) {
                if (formula.length < 12) {
                    formulas.add(formula);
                }
            }
        }
        return formulas.toArray(new int[0][]);
    }

    // ---- What it is

    private static void callsUpTo512() {
        for (int last = 0; last < 10; last++) {
            ModalJudge x = new ModalJudge();
            int calls = 0;
            while (calls < 496) {
                x.token(calls % 19);
                x.step(calls % 6, 5 - calls % 6, true);
                x.mark(calls % 3, calls % 64);
                x.wipe();
                calls += 4;
            }
            for (int s = 0; s < 6; s++) {
                x.step(s, 5 - s, false);
            }
            x.step(0, 1, true);
            x.mark(0, 2);
            x.wipe();
            write(x, 10, 7, 0, 8, 16);
            x.sound();
            calls += 6 + 3 + 5 + 1;
            due("calls before the last one", calls, 511);
            String call = "the 512th call, ";
            switch (last) {
                case 0: due(call + "step(5, 5, true)", x.step(5, 5, true), true); break;
                case 1: due(call + "mark(2, 63)", x.mark(2, 63), true); break;
                case 2: due(call + "token(18)", x.token(18), 6); break;
                case 3: due(call + "wipe()", x.wipe(), 5); break;
                case 4: due(call + "turn()", x.turn(), 4); break;
                case 5: due(call + "sound()", x.sound(), true); break;
                case 6: due(call + "holds(0)", x.holds(0), true); break;
                case 7: due(call + "set()", x.set(), 3); break;
                case 8: due(call + "depth()", x.depth(), 1); break;
                default: due(call + "steps(0)", x.steps(0), 2); break;
            }
        }
    }

    // ---- Terms

    private static void stepsToThemselves() {
        for (int s = 0; s < 6; s++) {
            ModalJudge x = new ModalJudge();
            x.mark(0, 1 << s);
            dueSet(x, 0, 8, 0);
            due("step(" + s + ", " + s + ", true)", x.step(s, s, true), true);
            due("steps(" + s + ")", x.steps(s), 1 << s);
            dueSet(x, 1 << s, 8, 0);
            dueSet(x, 1 << s, 13, 8, 16);
            dueSet(x, 63 - (1 << s), 10, 9, 16);
        }
    }

    private static void stepsOfNoneAndOfAll() {
        ModalJudge x = new ModalJudge();
        dueSet(x, 0, 8, 3);
        dueSet(x, 63, 9, 0);
        for (int s = 0; s < 6; s++) {
            for (int t = 0; t < 6; t++) {
                x.step(s, t, true);
            }
        }
        dueSet(x, 63, 8, 3);
        dueSet(x, 0, 9, 0);
        for (int s = 0; s < 6; s++) {
            x.mark(1, 1 << s);
            dueSet(x, 63, 8, 1);
            dueSet(x, 0, 9, 1);
            x.mark(1, 63 - (1 << s));
            dueSet(x, 63, 8, 1);
            dueSet(x, 0, 9, 1);
        }
    }

    private static void marksOfNoneAndOfAll() {
        for (int i = 0; i < 3; i++) {
            ModalJudge x = new ModalJudge();
            dueSet(x, 0, i);
            dueSet(x, 63, 3 + i);
            x.mark(i, 63);
            for (int j = 0; j < 3; j++) {
                dueSet(x, j == i ? 63 : 0, j);
                dueSet(x, j == i ? 0 : 63, 3 + j);
            }
            x.mark(i, 0);
            dueSet(x, 0, i);
            dueSet(x, 63, 3 + i);
        }
    }

    private static void bitsOfASet() {
        for (int s = 0; s < 6; s++) {
            ModalJudge x = new ModalJudge();
            x.mark(1, 1 << s);
            dueSet(x, 1 << s, 1);
            dueSet(x, 63 - (1 << s), 4);
            x.step(5 - s, s, true);
            due("steps(" + (5 - s) + ")", x.steps(5 - s), 1 << s);
            dueSet(x, 1 << (5 - s), 8, 1);
        }
    }

    // In the ring n times some mark 0 holds just n steps before state 0.
    private static void formulasOf0To12Tokens() {
        ModalJudge x = ring();
        x.mark(0, 1);
        due("sound() of 0 tokens", x.sound(), false);
        due("wipe() of 0 tokens", x.wipe(), 0);
        for (int n = 0; n <= 11; n++) {
            dueSet(x, 1 << (12 - n) % 6, times(n, 8, 0));
        }
        due("wipe() of 12 tokens", x.wipe(), 12);
        write(x, times(12, 8));
        due("token(0) as the 13th", x.token(0), FULL);
        due("sound() without the 13th", x.sound(), false);
        due("set() without the 13th", x.set(), UNSOUND);
        due("wipe() without the 13th", x.wipe(), 12);
    }

    // Each token at the edge of its range, in a system where its neighbours answer otherwise.
    private static void rangesOfTokens() {
        ModalJudge x = markedChain();
        int[] alone = {1, 6, 40, 62, 57, 23};
        for (int t = 0; t <= 5; t++) {
            dueSet(x, alone[t], t);
        }
        dueSet(x, 0, 6, 1, 2);
        dueSet(x, 46, 7, 1, 2);
        dueSet(x, UNSOUND, 8, 1, 2);
        dueSet(x, 3, 8, 1);
        dueSet(x, 35, 9, 1);
        for (int i = 0; i < 3; i++) {
            x = markedChain();
            dueSet(x, 6, 10 + i, 7, 1, 16 + i);
            dueSet(x, 63, 13 + i, 7, 1, 16 + i);
            dueSet(x, 0, 10 + i, 6, 1, 16 + i);
            dueSet(x, 6, 13 + i, 6, 1, 16 + i);
            dueSet(x, 7, 10 + i, 7, 1, 8, 16 + i);
            dueSet(x, UNSOUND, 16 + i);
            for (int j = 0; j < 3; j++) {
                dueSet(x, i == j ? 0 : UNSOUND, 10 + i, 16 + j);
                dueSet(x, i == j ? 63 : UNSOUND, 13 + i, 16 + j);
            }
        }
    }

    private static void tokensThatAreATerm() {
        for (int t = 0; t <= 5; t++) {
            dueSound(true, t);
            for (int behind = 0; behind <= 18; behind++) {
                dueSound(false, t, behind);
            }
        }
        for (int i = 0; i < 3; i++) {
            for (int b = 10 + i; b <= 15; b += 3) {
                dueSound(true, b, 16 + i);
                for (int behind = 0; behind <= 18; behind++) {
                    dueSound(false, b, 16 + i, behind);
                }
            }
        }
    }

    private static void twoTermsBehind() {
        int[][] terms = {{0}, {5}, {8, 1}, {6, 0, 1}, {10, 16}, {15, 9, 18}};
        for (int t = 6; t <= 7; t++) {
            int[] front = {t};
            dueSound(false, front);
            for (int[] one : terms) {
                dueSound(false, join(front, one));
                for (int[] two : terms) {
                    int[] both = join(join(front, one), two);
                    dueSound(true, both);
                    dueSound(false, join(both, 0));
                    dueSound(false, join(both, 8));
                }
            }
        }
        dueSound(false, 6, 7, 0, 1);
        dueSound(true, 6, 7, 0, 1, 2);
        dueSound(false, 6, 7, 0, 1, 2, 3);
        dueSound(false, times(6, 6, 0, 1, 2, 3, 4, 5));
        dueSound(true, times(5, 6, 0, 1, 2, 3, 4, 5));
        dueSound(false, times(5, 7, 0, 1, 2, 3, 4, 5, 0));
        dueSound(true, 7, 0, 7, 0, 7, 0, 7, 0, 7, 0, 0);
        dueSound(false, 7, 0, 7, 0, 7, 0, 7, 0, 7, 0, 7, 0);
        dueSound(false, 7, 0, 7, 0, 7, 0, 7, 0, 7, 0, 0, 0);
    }

    private static void oneTermBehind() {
        int[][] terms = {{0}, {5}, {8, 1}, {9, 1}, {6, 0, 1}, {7, 8, 0, 1}, {10, 16}, {15, 9, 18}};
        for (int t = 8; t <= 15; t++) {
            int[] front = {t};
            dueSound(false, front);
            for (int[] one : terms) {
                int[] whole = join(front, one);
                dueSound(true, whole);
                dueSound(false, join(whole, 0));
                dueSound(false, join(whole, 8));
            }
        }
        dueSound(true, times(11, 8, 0));
        dueSound(true, times(11, 9, 5));
        dueSound(false, times(12, 8));
        dueSound(false, times(12, 9));
        dueSound(false, times(10, 9, 5, 5));
    }

    // X is bound up to the last token of the term behind its binder, and not one token on.
    private static void whereAnXIsBound() {
        for (int i = 0; i < 3; i++) {
            for (int b = 10 + i; b <= 15; b += 3) {
                int x = 16 + i;
                dueSound(true, b, x);
                dueSound(false, x, b);
                dueSound(false, 6, x, b, 0);
                dueSound(true, 6, 0, b, x);
                dueSound(true, 6, b, x, 0);
                dueSound(false, 6, b, 0, x);
                dueSound(true, b, 6, x, x);
                dueSound(true, b, 6, 0, x);
                dueSound(true, b, 6, x, 0);
                dueSound(false, 7, b, 6, 0, x, x);
                dueSound(true, 7, b, 6, 0, x, 0);
                dueSound(true, join(times(10, 8), b, 0));
                dueSound(true, join(new int[] {b}, times(10, 8, x)));
                dueSound(false, join(new int[] {7, b}, times(8, 8, 0, x)));
                dueSound(true, join(new int[] {7, b}, times(8, 8, x, 0)));
                // A binder within the term ends its own binding before the outer one does.
                int other = 10 + (i + 1) % 3;
                dueSound(true, b, 6, other, other + 6, x);
                dueSound(false, b, 6, other, x, other + 6);
                dueSound(true, b, 6, other, x, x);
                for (int j = 0; j < 3; j++) {
                    dueSound(j == i, b, 16 + j);
                }
            }
        }
    }

    private static void justOneTerm() {
        dueSound(false);
        dueSound(true, 0);
        dueSound(false, 0, 0);
        dueSound(false, times(12, 0));
        dueSound(false, 8, 0, 8, 0);
        dueSound(false, 10, 16, 10, 16);
        dueSound(false, 6, 0, 0, 6, 0, 0);
        // The missing term of the first and would have to come from behind the end.
        dueSound(false, 6, 8, 9, 10, 16);
        for (int length = 1; length <= 12; length++) {
            int[] whole = times(length - 1, 9, 2);
            dueSound(true, whole);
            dueSound(false, Arrays.copyOf(whole, length - 1));
            if (length < 12) {
                dueSound(false, join(whole, 2));
            }
        }
    }

    // What an object worked out about an earlier formula doesn't count for the one that it has.
    private static void justTheFormulaThatIsThere() {
        ModalJudge x = new ModalJudge();
        write(x, 6, 6, 0, 1, 2);
        due("sound()", x.sound(), true);
        x.wipe();
        due("sound() after wipe", x.sound(), false);
        write(x, 6, 6, 0, 1);
        due("sound() of a shorter one", x.sound(), false);
        x.token(2);
        due("sound() of it all", x.sound(), true);
        for (int length = 1; length <= 12; length++) {
            int[] sound = times(length - 1, 9, 2);
            int[][] broken = {times(length, 6), times(length - 1, 7, 0), times(length, 9), times(length, 10),
                times(length, 16), times(length, 0)};
            for (int[] other : broken) {
                x = new ModalJudge();
                write(x, sound);
                due("set() of " + Arrays.toString(sound), x.set(), length == 1 ? 0 : 63);
                x.wipe();
                write(x, other);
                boolean one = length == 1 && other[0] == 0;
                due("sound() of " + Arrays.toString(other) + " behind it", x.sound(), one);
                due("set() of " + Arrays.toString(other) + " behind it", x.set(), one ? 0 : UNSOUND);
                due("depth() of " + Arrays.toString(other) + " behind it", x.depth(), one ? 0 : UNSOUND);
                x.wipe();
                write(x, sound);
                due("set() of " + Arrays.toString(sound) + " again", x.set(), length == 1 ? 0 : 63);
            }
        }
    }

    private static void everyXIsBound() {
        for (int i = 0; i < 3; i++) {
            dueSound(false, 16 + i);
            dueSound(false, 8, 16 + i);
            for (int j = 0; j < 3; j++) {
                for (int k = 0; k < 3; k++) {
                    dueSound(j == i && k == i, 10 + i, 6, 16 + j, 16 + k);
                    dueSound(j == i && k == i, 13 + i, 7, 16 + j, 16 + k);
                    dueSound(i == k || j == k, 10 + i, 13 + j, 16 + k);
                }
            }
        }
        dueSound(true, 10, 11, 12, 6, 16, 6, 17, 18);
        dueSound(false, 10, 11, 11, 6, 16, 6, 17, 18);
        dueSound(false, 10, 10, 12, 6, 16, 6, 17, 18);
        dueSound(false, 11, 11, 12, 6, 16, 6, 17, 18);
    }

    private static void atMost4Binders() {
        for (int t = 10; t <= 15; t++) {
            for (int n = 0; n <= 11; n++) {
                dueSound(n <= 4, times(n, t, 0));
            }
            // The fifth, of any kind, at the front, at the back, and beside the others.
            dueSound(false, t, 10, 11, 13, 14, 0);
            dueSound(false, 10, 11, 13, 14, t, 0);
            dueSound(true, 6, 10, 11, 13, 0, t, 0);
            dueSound(false, 6, 10, 11, 13, 14, 0, t, 0);
            dueSound(true, 6, t, 0, 10, 11, 13, 0);
            dueSound(false, 6, t, 0, 10, 11, 13, 14, 0);
        }
        // Side by side they count as well, though none lies deep.
        dueSound(true, 6, 10, 16, 6, 11, 17, 6, 12, 18, 13, 16);
        dueSound(false, 6, 10, 11, 16, 6, 11, 17, 6, 12, 18, 13, 16);
        dueSound(true, 6, 9, 10, 16, 6, 11, 17, 6, 12, 18, 13, 16);
        dueSound(true, 6, 10, 11, 0, 12, 13, 0);
        dueSound(false, 6, 10, 11, 0, 12, 13, 14, 0);
        dueSound(false, 6, 10, 11, 15, 0, 12, 13, 0);
        // 9 and 16, just outside 10 to 15, don't count.
        dueSound(true, 10, 9, 11, 9, 12, 9, 13, 9, 9, 9, 9, 16);
        dueSound(true, 10, 13, 10, 13, 6, 16, 6, 16, 6, 16, 16);
        dueSound(false, 10, 13, 10, 13, 10, 6, 16, 6, 16, 16);
    }

    // Mark 0 keeps the outer X apart from the full set and the empty one.
    private static void innermostBinder() {
        for (int i = 0; i < 3; i++) {
            int least = 10 + i;
            int greatest = 13 + i;
            int x = 16 + i;
            ModalJudge judge = chain();
            judge.mark(0, 9);
            dueSet(judge, 63, least, greatest, x);
            dueSet(judge, 0, greatest, least, x);
            dueSet(judge, 0, least, greatest, least, x);
            dueSet(judge, 63, least, least, least, greatest, x);
            dueSet(judge, 0, greatest, greatest, greatest, least, x);
            // Behind the inner term, and in front of it, the outer binder counts.
            dueSet(judge, 0, least, 6, greatest, x, x);
            dueSet(judge, 0, least, 6, x, greatest, x);
            dueSet(judge, 63, greatest, 7, least, x, x);
            dueSet(judge, 63, greatest, 7, x, least, x);
            dueSet(judge, 15, least, 7, 0, 7, 8, x, least, x);
            dueSet(judge, 15, least, 7, 0, 7, least, x, 8, x);
            // Another X between doesn't hide it.
            int other = 10 + (i + 1) % 3;
            dueSet(judge, 0, least, other + 3, x);
            dueSet(judge, 63, greatest, other, x);
        }
    }

    private static void someAndAllWithoutSteps() {
        ModalJudge x = chain();
        x.mark(0, 63);
        dueSet(x, 31, 8, 0);
        dueSet(x, 0, 8, 3);
        dueSet(x, 63, 9, 0);
        dueSet(x, 32, 9, 3);
        x.step(5, 5, true);
        dueSet(x, 63, 8, 0);
        dueSet(x, 0, 9, 3);
        x.step(5, 5, false);
        dueSet(x, 31, 8, 0);
        dueSet(x, 32, 9, 3);
        // All, but one, of the steps lead into the set.
        x = new ModalJudge();
        for (int t = 0; t < 6; t++) {
            x.step(2, t, true);
        }
        x.mark(0, 63);
        dueSet(x, 63, 9, 0);
        dueSet(x, 4, 8, 0);
        for (int t = 0; t < 6; t++) {
            x.mark(0, 63 - (1 << t));
            dueSet(x, 59, 9, 0);
            dueSet(x, 4, 8, 0);
            dueSet(x, 4, 8, 3);
        }
    }

    // 0 and 1 step to each other, and 0 to 2, which has mark 0 and no steps: the inner set shrinks
    // to nothing together with the outer one, or grows to everything when all is turned.
    private static void innerSetsByTheGivenOnes() {
        for (int i = 0; i < 3; i++) {
            int j = (i + 1) % 3;
            ModalJudge x = new ModalJudge();
            x.step(0, 1, true);
            x.step(1, 0, true);
            x.step(0, 2, true);
            x.mark(0, 4);
            dueSet(x, 3, 11, 8, 7, 0, 17);
            dueSet(x, 0, 13 + i, 10 + j, 8, 7, 6, 0, 16 + i, 16 + j);
            dueSet(x, 63, 10 + i, 13 + j, 9, 6, 7, 3, 16 + i, 16 + j);
            x.step(2, 1, true);
            dueSet(x, 7, 13 + i, 10 + j, 8, 7, 6, 0, 16 + i, 16 + j);
            dueSet(x, 56, 10 + i, 13 + j, 9, 6, 7, 3, 16 + i, 16 + j);
        }
    }

    // From nothing to everything and back: a fixed point may need a round for each state.
    private static void smallestAndLargest() {
        for (int i = 0; i < 3; i++) {
            int least = 10 + i;
            int greatest = 13 + i;
            int x = 16 + i;
            ModalJudge judge = chain();
            judge.mark(0, 32);
            dueSet(judge, 0, least, x);
            dueSet(judge, 63, greatest, x);
            for (int mark = 0; mark < 2; mark++) {
                dueSet(judge, mark == 0 ? 32 : 0, least, mark);
                dueSet(judge, mark == 0 ? 32 : 0, greatest, mark);
            }
            dueSet(judge, 63, least, 7, 0, 8, x);
            dueSet(judge, 63, least, 9, x);
            dueSet(judge, 0, greatest, 8, x);
            dueSet(judge, 0, greatest, 6, 3, 8, x);
            dueSet(judge, 63, greatest, 7, 0, 8, x);
            dueSet(judge, 0, least, 8, x);
            judge.step(0, 1, false);
            dueSet(judge, 62, least, 7, 0, 8, x);
            dueSet(judge, 63, least, 9, x);
            judge.step(0, 1, true);
            judge.step(5, 5, true);
            dueSet(judge, 0, least, 9, x);
            dueSet(judge, 63, greatest, 8, x);
            dueSet(judge, 0, least, 8, x);
            dueSet(judge, 63, greatest, 9, x);
            // The same up to four deep, the innermost X being the one that is meant.
            dueSet(judge, 63, least, least, least, least, 7, 0, 8, x);
            dueSet(judge, 0, greatest, greatest, greatest, greatest, 6, 3, 8, x);
        }
    }

    // ---- Promise 1

    private static void newObject() {
        ModalJudge x = new ModalJudge();
        due("sound()", x.sound(), false);
        due("set()", x.set(), UNSOUND);
        due("depth()", x.depth(), UNSOUND);
        for (int s = -1; s <= 6; s++) {
            due("holds(" + s + ")", x.holds(s), false);
            due("steps(" + s + ")", x.steps(s), s < 0 || s > 5 ? BAD : 0);
        }
        due("turn()", x.turn(), 0);
        due("wipe()", x.wipe(), 0);
        due("token(0)", x.token(0), 1);
        for (int i = 0; i < 3; i++) {
            dueSet(x, 0, i);
            dueSet(x, 63, 3 + i);
        }
        dueSet(x, 0, 8, 3);
        dueSet(x, 63, 9, 0);
        ModalJudge other = object(SYSTEMS[1], TWELVE);
        ModalJudge third = new ModalJudge();
        due("wipe() beside another object", third.wipe(), 0);
        due("steps(5) beside another object", third.steps(5), 0);
        dueSet(third, 0, 0);
        due("wipe() of the other object", other.wipe(), 12);
        // Two formulas of the same length, each asked for when both are there.
        ModalJudge first = object(SYSTEMS[2], new int[] {7, 0, 1});
        ModalJudge second = object(SYSTEMS[2], new int[] {6, 1, 2});
        due("set() of the first object", first.set(), 11);
        due("set() of the second object", second.set(), 2);
        due("turn() of the second object", second.turn(), 3);
        due("set() of the first object", first.set(), 11);
        due("set() of the second object", second.set(), 61);
    }

    // ---- Promise 2

    private static void stepThereOrNot() {
        for (int s = 0; s < 6; s++) {
            for (int t = 0; t < 6; t++) {
                for (int system = 0; system < 2; system++) {
                    ModalJudge x = object(SYSTEMS[system], new int[0]);
                    int others = SYSTEMS[system][0];
                    for (boolean there : new boolean[] {true, true, false, false, true}) {
                        due("step(" + s + ", " + t + ", " + there + ")", x.step(s, t, there), true);
                        int want = there ? others | 1 << t : others & ~(1 << t);
                        for (int from = 0; from < 6; from++) {
                            due("steps(" + from + ")", x.steps(from), from == s ? want : others);
                        }
                    }
                }
            }
        }
    }

    private static void stepRefused() {
        int[][] formulas = {{}, {0}, TWELVE};
        for (int bad : NO_STATES) {
            for (boolean there : new boolean[] {true, false}) {
                for (int good = 0; good < 6; good++) {
                    int state = good;
                    dueAndNoTrace("step(" + bad + ", " + state + ", " + there + ")",
                        x -> asInt(x.step(bad, state, there)), 0, formulas);
                    dueAndNoTrace("step(" + state + ", " + bad + ", " + there + ")",
                        x -> asInt(x.step(state, bad, there)), 0, formulas);
                }
                for (int worse : new int[] {bad, -1, 6, Integer.MIN_VALUE, Integer.MAX_VALUE}) {
                    dueAndNoTrace("step(" + bad + ", " + worse + ", " + there + ")",
                        x -> asInt(x.step(bad, worse, there)), 0, formulas);
                }
            }
        }
    }

    private static void stepTaken() {
        for (int edge : new int[] {0, 5}) {
            for (int any = 0; any < 6; any++) {
                ModalJudge x = new ModalJudge();
                due("step(" + edge + ", " + any + ", true)", x.step(edge, any, true), true);
                due("steps(" + edge + ")", x.steps(edge), 1 << any);
                due("step(" + edge + ", " + any + ", false)", x.step(edge, any, false), true);
                due("steps(" + edge + ")", x.steps(edge), 0);
                due("step(" + any + ", " + edge + ", true)", x.step(any, edge, true), true);
                due("steps(" + any + ")", x.steps(any), 1 << edge);
            }
        }
    }

    // ---- Promise 3

    private static void exactlyTheStates() {
        int[] sets = {0, 63, 0, 1, 32, 31, 62, 21, 42, 63, 63, 0, 0};
        for (int i = 0; i < 3; i++) {
            ModalJudge x = new ModalJudge();
            x.token(i);
            for (int set : sets) {
                due("mark(" + i + ", " + set + ")", x.mark(i, set), true);
                due("set() of mark " + i, x.set(), set);
            }
            for (int j = 0; j < 3; j++) {
                x.mark(j, 9 + j);
            }
            x.mark(i, 63);
            for (int j = 0; j < 3; j++) {
                dueSet(x, j == i ? 63 : 9 + j, j);
            }
        }
    }

    private static void markRefused() {
        int[][] formulas = {{}, {0}, TWELVE};
        for (int i = 0; i < 3; i++) {
            int mark = i;
            for (int bad : NO_SETS) {
                dueAndNoTrace("mark(" + mark + ", " + bad + ")", x -> asInt(x.mark(mark, bad)), 0, formulas);
            }
        }
        for (int bad : NO_MARKS) {
            for (int set : new int[] {0, 1, 32, 63, -1, 64, bad, Integer.MIN_VALUE, Integer.MAX_VALUE}) {
                dueAndNoTrace("mark(" + bad + ", " + set + ")", x -> asInt(x.mark(bad, set)), 0, formulas);
            }
        }
    }

    private static void markTaken() {
        for (int i : new int[] {0, 1, 2}) {
            for (int set : new int[] {0, 1, 62, 63}) {
                ModalJudge x = new ModalJudge();
                due("mark(" + i + ", " + set + ")", x.mark(i, set), true);
                dueSet(x, set, i);
            }
        }
    }

    // ---- Promise 4

    private static void tokenFull() {
        for (int t = 0; t <= 18; t++) {
            int token = t;
            ModalJudge x = new ModalJudge();
            write(x, times(11, t));
            due("token(" + t + ") as the 12th", x.token(t), 12);
            due("token(" + t + ") as the 13th", x.token(t), FULL);
            due("token(" + t + ") once more", x.token(t), FULL);
            due("wipe()", x.wipe(), 12);
            due("token(" + t + ") after wipe", x.token(t), 1);
            dueAndNoTrace("token(" + t + ")", y -> y.token(token), FULL,
                TWELVE, times(12, 8), times(12, 18), times(11, 9, 5), times(12, 0));
        }
    }

    private static void tokenBad() {
        int[][] formulas = formulasBelowTwelve();
        for (int bad : NO_TOKENS) {
            dueAndNoTrace("token(" + bad + ")", x -> x.token(bad), BAD, formulas);
        }
        for (int bad : new int[] {-1, 19, Integer.MIN_VALUE, Integer.MAX_VALUE}) {
            ModalJudge x = new ModalJudge();
            for (int n = 1; n <= 12; n++) {
                due("token(" + bad + ") before the " + n + "th", x.token(bad), BAD);
                due("token(0) as the " + n + "th", x.token(0), n);
            }
        }
    }

    private static void tokenTaken() {
        for (int t = 0; t <= 18; t++) {
            ModalJudge x = new ModalJudge();
            for (int n = 1; n <= 12; n++) {
                due("token(" + t + ")", x.token(t), n);
            }
        }
    }

    // ---- Promise 5

    private static void wipe() {
        for (int n = 0; n <= 12; n++) {
            ModalJudge x = object(SYSTEMS[2], times(n, 0));
            due("wipe() of " + n, x.wipe(), n);
            due("wipe() again", x.wipe(), 0);
            due("sound()", x.sound(), false);
            due("set()", x.set(), UNSOUND);
            due("depth()", x.depth(), UNSOUND);
            due("turn()", x.turn(), 0);
            for (int s = 0; s < 6; s++) {
                due("holds(" + s + ")", x.holds(s), false);
                due("steps(" + s + ")", x.steps(s), SYSTEMS[2][s]);
            }
            for (int i = 0; i < 3; i++) {
                due("token(" + i + ") after wipe", x.token(i), 1);
                due("set()", x.set(), SYSTEMS[2][6 + i]);
                due("wipe()", x.wipe(), 1);
            }
            for (int k = 1; k <= 12; k++) {
                due("token(1) after wipe", x.token(1), k);
            }
            due("token(1) as the 13th", x.token(1), FULL);
        }
        // Refused tokens were never there.
        ModalJudge x = new ModalJudge();
        x.token(19);
        x.token(-1);
        due("wipe() after BAD alone", x.wipe(), 0);
        write(x, times(15, 3));
        due("wipe() after FULL", x.wipe(), 12);
    }

    // ---- Promise 6

    // What a turned token has become shows in the formula's set.
    private static void counterparts() {
        ModalJudge x = markedChain();
        int[] marks = {1, 6, 40, 62, 57, 23};
        for (int t = 0; t <= 5; t++) {
            dueTurned(x, marks[t], 1, 63 - marks[t], t);
        }
        dueTurned(x, 0, 3, 63, 6, 1, 2);
        dueTurned(x, 46, 3, 17, 7, 1, 2);
        dueTurned(x, 3, 2, 60, 8, 1);
        dueTurned(x, 35, 2, 28, 9, 1);
        for (int i = 0; i < 3; i++) {
            dueTurned(x, 0, 1, 63, 10 + i, 16 + i);
            dueTurned(x, 63, 1, 0, 13 + i, 16 + i);
            dueTurned(x, 7, 4, 56, 10 + i, 7, 1, 8, 16 + i);
        }
    }

    private static void dueTurned(ModalJudge x, int before, int changed, int after, int... tokens) {
        dueSet(x, before, tokens);
        String of = " of " + Arrays.toString(tokens);
        due("turn()" + of, x.turn(), changed);
        due("set() turned" + of, x.set(), after);
        due("turn() back" + of, x.turn(), changed);
        due("set() turned back" + of, x.set(), before);
    }

    private static void xStays() {
        for (int i = 0; i < 3; i++) {
            for (int n = 1; n <= 12; n++) {
                ModalJudge x = new ModalJudge();
                write(x, times(n, 16 + i));
                due("turn() of " + n + " X" + i, x.turn(), 0);
                due("wipe()", x.wipe(), n);
            }
            ModalJudge x = new ModalJudge();
            write(x, 10 + i, 16 + i);
            due("turn()", x.turn(), 1);
            due("sound()", x.sound(), true);
            due("set()", x.set(), 63);
        }
    }

    private static void numberThatChanged() {
        ModalJudge empty = new ModalJudge();
        due("turn() of no token", empty.turn(), 0);
        due("wipe() of no token", empty.wipe(), 0);
        for (int t = 0; t <= 18; t++) {
            for (int n = 0; n <= 12; n++) {
                ModalJudge x = new ModalJudge();
                write(x, times(n, t));
                due("turn() of " + n + " times " + t, x.turn(), t < 16 ? n : 0);
                due("turn() back", x.turn(), t < 16 ? n : 0);
                due("wipe()", x.wipe(), n);
                due("turn() after wipe", x.turn(), 0);
            }
        }
        ModalJudge x = new ModalJudge();
        write(x, 16, 15, 17, 9, 18, 0);
        due("turn() of three X and three others", x.turn(), 3);
        x.wipe();
        x.token(19);
        due("turn() after BAD", x.turn(), 0);
        write(x, times(13, 6));
        due("turn() after FULL", x.turn(), 12);
    }

    // A formula that isn't sound is turned too, and turning never makes it sound.
    private static void turnUnsound() {
        ModalJudge x = new ModalJudge();
        x.mark(0, 9);
        x.mark(1, 5);
        write(x, 6, 0);
        due("turn() of a broken formula", x.turn(), 2);
        due("sound()", x.sound(), false);
        x.token(1);
        due("set() of no mark 0 or mark 1", x.set(), 54 | 5);
        for (int[] formula : UNSOUND_FORMULAS) {
            x = new ModalJudge();
            write(x, formula);
            x.turn();
            due("sound() of turned " + Arrays.toString(formula), x.sound(), false);
        }
        for (int[] formula : SOUND_FORMULAS) {
            x = new ModalJudge();
            write(x, formula);
            x.turn();
            due("sound() of turned " + Arrays.toString(formula), x.sound(), true);
        }
    }

    // ---- Promises 7 to 11

    private static void soundAsItGrows() {
        for (int[] formula : SOUND_FORMULAS) {
            ModalJudge x = new ModalJudge();
            for (int t : formula) {
                due("sound() before the last token", x.sound(), false);
                x.token(t);
            }
            due("sound() of " + Arrays.toString(formula), x.sound(), true);
            due("sound() again", x.sound(), true);
            if (formula.length < 12) {
                x.token(0);
                due("sound() with a token too many", x.sound(), false);
            } else {
                due("token(0) as the 13th", x.token(0), FULL);
                due("sound() after FULL", x.sound(), true);
            }
        }
        dueAndNoTrace("sound()", x -> asInt(x.sound()), 1, SOUND_FORMULAS);
        dueAndNoTrace("sound()", x -> asInt(x.sound()), 0, UNSOUND_FORMULAS);
    }

    private static void holdsUnsoundOrOutside() {
        int[][] everywhere = {{13, 16}, {10, 14, 17}, {13, 11, 15, 14, 17}, times(8, 9, 13, 9, 9, 16)};
        int[][] nowhere = {{10, 16}, {13, 11, 17}};
        for (int s = 0; s < 6; s++) {
            int state = s;
            dueAndNoTrace("holds(" + s + ")", x -> asInt(x.holds(state)), 1, everywhere);
            dueAndNoTrace("holds(" + s + ")", x -> asInt(x.holds(state)), 0, nowhere);
            dueAndNoTrace("holds(" + s + ")", x -> asInt(x.holds(state)), 0, UNSOUND_FORMULAS);
        }
        for (int bad : NO_STATES) {
            dueAndNoTrace("holds(" + bad + ")", x -> asInt(x.holds(bad)), 0, everywhere);
            dueAndNoTrace("holds(" + bad + ")", x -> asInt(x.holds(bad)), 0, nowhere);
            dueAndNoTrace("holds(" + bad + ")", x -> asInt(x.holds(bad)), 0, UNSOUND_FORMULAS);
        }
    }

    private static void setUnsound() {
        dueAndNoTrace("set()", ModalJudge::set, UNSOUND, UNSOUND_FORMULAS);
        dueAndNoTrace("set()", ModalJudge::set, 0, new int[] {10, 16}, times(4, 12, 18));
        dueAndNoTrace("set()", ModalJudge::set, 63, new int[] {13, 16}, times(4, 15, 18));
        ModalJudge x = object(SYSTEMS[2], new int[] {7, 0});
        due("set() of an or with one term", x.set(), UNSOUND);
        x.token(1);
        due("set() with two", x.set(), 11);
        x.token(2);
        due("set() with three", x.set(), UNSOUND);
    }

    private static void depthUnsound() {
        dueAndNoTrace("depth()", ModalJudge::depth, UNSOUND, UNSOUND_FORMULAS);
        dueAndNoTrace("depth()", ModalJudge::depth, 0, new int[] {0}, times(11, 9, 5));
        dueAndNoTrace("depth()", ModalJudge::depth, 4, times(4, 12, 18), times(4, 15, 0));
        for (int t = 10; t <= 15; t++) {
            for (int n = 0; n <= 11; n++) {
                dueDepth(n <= 4 ? n : UNSOUND, times(n, t, 0));
            }
        }
    }

    // One binder lies within the term of another up to that term's last token, and not behind.
    private static void depthByNesting() {
        for (int t = 10; t <= 15; t++) {
            for (int u = 10; u <= 15; u++) {
                dueDepth(2, t, u, 0);
                dueDepth(1, 6, t, 0, u, 0);
                dueDepth(2, t, 6, 0, u, 0);
                dueDepth(2, t, 6, u, 0, 0);
                dueDepth(1, 6, 6, t, 0, 1, u, 0);
                dueDepth(1, 6, t, 6, 0, 1, u, 0);
                dueDepth(2, t, 6, 6, 0, 1, u, 0);
                dueDepth(2, t, 8, 8, 9, 9, 8, 8, 9, 9, u, 0);
                dueDepth(2, 6, t, u, 0, t, 0);
                dueDepth(2, 6, t, 0, t, u, 0);
                dueDepth(2, 6, t, u, 0, u, t, 0);
                dueDepth(2, t, 6, u, 0, 6, t, 0, u, 0);
                dueDepth(3, t, 6, u, t, 0, u, 0);
                dueDepth(3, t, 6, u, 0, t, u, 0);
                dueDepth(3, 6, t, u, t, 0, u, 0);
                dueDepth(3, 6, u, 0, t, u, t, 0);
            }
        }
        dueDepth(1, 6, 10, 16, 6, 11, 17, 6, 12, 18, 13, 16);
        dueDepth(0, 9, 9, 9, 0);
        dueDepth(1, 9, 10, 16);
        dueDepth(1, 9, 15, 18);
        dueDepth(4, 15, 9, 10, 9, 12, 9, 13, 6, 16, 18);
    }

    private static void stepsOutside() {
        int[][] formulas = {{}, {0}, TWELVE};
        for (int bad : NO_STATES) {
            dueAndNoTrace("steps(" + bad + ")", x -> x.steps(bad), BAD, formulas);
        }
        for (int s = 0; s < 6; s++) {
            for (int set = 0; set < 64; set++) {
                ModalJudge x = new ModalJudge();
                for (int t = 0; t < 6; t++) {
                    x.step(s, t, (set >> t & 1) == 1);
                }
                for (int from = 0; from < 6; from++) {
                    due("steps(" + from + ")", x.steps(from), from == s ? set : 0);
                }
            }
        }
    }

    // ---- Promise 12

    private static void fullBeforeBad() {
        int[][] full = {TWELVE, times(12, 8), times(11, 9, 5), times(12, 0)};
        for (int bad : NO_TOKENS) {
            dueAndNoTrace("token(" + bad + ")", x -> x.token(bad), FULL, full);
            ModalJudge x = new ModalJudge();
            write(x, ELEVEN);
            due("token(" + bad + ") as the 12th", x.token(bad), BAD);
            due("token(2) as the 12th", x.token(2), 12);
            due("token(" + bad + ") as the 13th", x.token(bad), FULL);
            due("wipe()", x.wipe(), 12);
            due("token(" + bad + ") after wipe", x.token(bad), BAD);
            due("wipe() after BAD", x.wipe(), 0);
        }
    }

    private static void terms() {
        sentence("What it is", "An object is used for at most 512 calls after it has been made",
            BoundariesTest::callsUpTo512);
        sentence("Terms", "6 STATES, 0 to 5, some of which have STEPS to some (perhaps to themselves)",
            BoundariesTest::stepsToThemselves);
        sentence("Terms", "some of which have STEPS to some", BoundariesTest::stepsOfNoneAndOfAll);
        sentence("Terms", "3 MARKS, 0 to 2, each of which some states have", BoundariesTest::marksOfNoneAndOfAll);
        sentence("Terms", "a number whose bit s speaks of state s", BoundariesTest::bitsOfASet);
        sentence("Terms", "A FORMULA is a list of 0 to 12 TOKENS", BoundariesTest::formulasOf0To12Tokens);
        sentence("Terms", "0 to 2 (mark), 3 to 5 (no mark 0 to 2), 6 (and), ... 16 to 18 (X0, X1, X2)",
            BoundariesTest::rangesOfTokens);
        sentence("Terms", "a token from 0 to 5 or from 16 to 18 is one", BoundariesTest::tokensThatAreATerm);
        sentence("Terms", "6 and 7 with two terms behind them", BoundariesTest::twoTermsBehind);
        sentence("Terms", "8, 9 and 10 to 15 with one term behind them", BoundariesTest::oneTermBehind);
        sentence("Terms", "The token 10 + i or 13 + i BINDS Xi in the term behind it",
            BoundariesTest::whereAnXIsBound);
        sentence("Terms", "SOUND iff it is just one term", BoundariesTest::justOneTerm);
        sentence("Terms", "A formula is SOUND iff it is", BoundariesTest::justTheFormulaThatIsThere);
        sentence("Terms", "every token 16 + i lies within a term in which Xi is bound",
            BoundariesTest::everyXIsBound);
        sentence("Terms", "there are at most 4 tokens from 10 to 15", BoundariesTest::atMost4Binders);
        sentence("Terms", "bound by the innermost such token around it", BoundariesTest::innermostBinder);
        sentence("Terms", "a step to a state in the set; all of whose steps lead into that set",
            BoundariesTest::someAndAllWithoutSteps);
        sentence("Terms", "given sets of states for the X that are bound around it",
            BoundariesTest::innerSetsByTheGivenOnes);
        sentence("Terms", "the smallest (the largest) set Z", BoundariesTest::smallestAndLargest);
    }

    private static void promises() {
        sentence("promise 1", "No steps, no marks, an empty formula.", BoundariesTest::newObject);
        sentence("promise 2", "Makes a step from s to t be there or not.", BoundariesTest::stepThereOrNot);
        sentence("promise 2", "s or t outside 0..5: refused, answers false.", BoundariesTest::stepRefused);
        sentence("promise 2", "Else true.", BoundariesTest::stepTaken);
        sentence("promise 3", "Gives exactly the states of a set the mark i.", BoundariesTest::exactlyTheStates);
        sentence("promise 3", "i outside 0..2 or set outside 0..63: refused, answers false.",
            BoundariesTest::markRefused);
        sentence("promise 3", "Else true.", BoundariesTest::markTaken);
        sentence("promise 4", "12 tokens are there: FULL", BoundariesTest::tokenFull);
        sentence("promise 4", "token outside 0..18: BAD.", BoundariesTest::tokenBad);
        sentence("promise 4", "Else answers the number of tokens.", BoundariesTest::tokenTaken);
        sentence("promise 5", "Makes the formula empty; answers how many tokens it had.", BoundariesTest::wipe);
        sentence("promise 6", "Replaces every token of the formula by its counterpart",
            BoundariesTest::counterparts);
        sentence("promise 6", "Xi stays.", BoundariesTest::xStays);
        sentence("promise 6", "Answers the number of tokens that changed.", BoundariesTest::numberThatChanged);
        sentence("promise 6", "every token of the formula", BoundariesTest::turnUnsound);
        sentence("promise 7", "Whether the formula is sound.", BoundariesTest::soundAsItGrows);
        sentence("promise 8", "false if the formula is not sound or s is outside 0..5.",
            BoundariesTest::holdsUnsoundOrOutside);
        sentence("promise 9", "UNSOUND if it is not sound.", BoundariesTest::setUnsound);
        sentence("promise 10", "UNSOUND if the formula is not sound.", BoundariesTest::depthUnsound);
        sentence("promise 10", "each of which, but the first, lies within the term behind the one before",
            BoundariesTest::depthByNesting);
        sentence("promise 11", "BAD for s outside 0..5.", BoundariesTest::stepsOutside);
        sentence("promise 12", "token: FULL is tested before BAD.", BoundariesTest::fullBeforeBad);
    }

    public static void main(String[] args) {
        terms();
        promises();
        System.out.println(wrong == 0 ? "all answers are as due" : wrong + " answers are not as due");
        if (wrong != 0) {
            System.exit(1);
        }
    }
}
