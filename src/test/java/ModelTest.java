import java.util.ArrayList;
import java.util.List;

// Long runs of calls, the same ones every time, beside a model that follows the document's
// words: terms are read by recursion, and a fixed point is sought among all 64 sets.
public final class ModelTest {
    private static int wrong = 0;
    private static long seed = 20261115L;

    private static int pick(int bound) {
        seed = seed * 6364136223846793005L + 1442695040888963407L;
        return (int) ((seed >>> 33) % bound);
    }

    private static final class Model {
        final boolean[][] there = new boolean[6][6];
        final int[] marks = new int[3];
        final List<Integer> formula = new ArrayList<>();
        private int place;
        private int binders;
        private boolean good;

        boolean step(int s, int t, boolean now) {
            if (s < 0 || s > 5 || t < 0 || t > 5) {
                return false;
            }
            there[s][t] = now;
            return true;
        }

        boolean mark(int i, int set) {
            if (i < 0 || i > 2 || set < 0 || set > 63) {
                return false;
            }
            marks[i] = set;
            return true;
        }

        int token(int t) {
            if (formula.size() == 12) {
                return -2;
            }
            if (t < 0 || t > 18) {
                return -1;
            }
            formula.add(t);
            return formula.size();
        }

        int wipe() {
            int had = formula.size();
            formula.clear();
            return had;
        }

        int turn() {
            int[] counterpart = {3, 4, 5, 0, 1, 2, 7, 6, 9, 8, 13, 14, 15, 10, 11, 12};
            int changed = 0;
            for (int p = 0; p < formula.size(); p++) {
                if (formula.get(p) < 16) {
                    formula.set(p, counterpart[formula.get(p)]);
                    changed++;
                }
            }
            return changed;
        }

        // Reads a term; answers the depth of the binders in it.
        private int read(int bound) {
            if (place >= formula.size()) {
                good = false;
                return 0;
            }
            int t = formula.get(place++);
            if (t < 6) {
                return 0;
            }
            if (t >= 16) {
                good &= (bound >> (t - 16) & 1) == 1;
                return 0;
            }
            if (t < 8) {
                int left = read(bound);
                return Math.max(left, read(bound));
            }
            if (t < 10) {
                return read(bound);
            }
            binders++;
            return 1 + read(bound | 1 << (t - 10) % 3);
        }

        int depth() {
            place = 0;
            binders = 0;
            good = true;
            int depth = read(0);
            return good && place == formula.size() && binders <= 4 ? depth : -3;
        }

        private int within(int from, int[] x) {
            place = from;
            int t = formula.get(place++);
            if (t < 3) {
                return marks[t];
            }
            if (t < 6) {
                return 63 - marks[t - 3];
            }
            if (t >= 16) {
                return x[t - 16];
            }
            int start = place;
            if (t >= 10) {
                return fixed(start, x, (t - 10) % 3, t < 13);
            }
            int first = within(start, x);
            if (t >= 8) {
                return next(first, t == 8);
            }
            int second = within(place, x);
            return t == 6 ? first & second : first | second;
        }

        private int next(int set, boolean some) {
            int result = 0;
            for (int s = 0; s < 6; s++) {
                boolean any = false;
                boolean every = true;
                for (int t = 0; t < 6; t++) {
                    boolean in = (set >> t & 1) == 1;
                    any |= there[s][t] && in;
                    every &= !there[s][t] || in;
                }
                result |= (some ? any : every) ? 1 << s : 0;
            }
            return result;
        }

        private int fixed(int start, int[] x, int i, boolean least) {
            int[] inner = x.clone();
            for (int size = 0; size <= 6; size++) {
                for (int z = 0; z < 64; z++) {
                    inner[i] = z;
                    if (Integer.bitCount(z) == (least ? size : 6 - size) && within(start, inner) == z) {
                        return z;
                    }
                }
            }
            throw new IllegalStateException("no fixed point");
        }

        int set() {
            return depth() == -3 ? -3 : within(0, new int[3]);
        }

        int steps(int s) {
            if (s < 0 || s > 5) {
                return -1;
            }
            int set = 0;
            for (int t = 0; t < 6; t++) {
                set |= there[s][t] ? 1 << t : 0;
            }
            return set;
        }
    }

    private static final class Run {
        final ModalJudge x = new ModalJudge();
        final Model m = new Model();
        final StringBuilder told = new StringBuilder();
        int calls = 0;

        void due(String call, int got, int want) {
            calls++;
            told.append(call).append(" = ").append(got).append('\n');
            if (got != want && wrong++ < 3) {
                System.out.println(told + "due is " + want);
            }
        }

        void due(String call, boolean got, boolean want) {
            due(call, got ? 1 : 0, want ? 1 : 0);
        }

        void step(int s, int t, boolean now) {
            due("step(" + s + ", " + t + ", " + now + ")", x.step(s, t, now), m.step(s, t, now));
        }

        void mark(int i, int set) {
            due("mark(" + i + ", " + set + ")", x.mark(i, set), m.mark(i, set));
        }

        void token(int t) {
            due("token(" + t + ")", x.token(t), m.token(t));
        }

        void wipe() {
            due("wipe()", x.wipe(), m.wipe());
        }

        void turn() {
            due("turn()", x.turn(), m.turn());
        }

        void ask() {
            int depth = m.depth();
            int set = m.set();
            due("sound()", x.sound(), depth != -3);
            due("depth()", x.depth(), depth);
            due("set()", x.set(), set);
            int s = pick(8) - 1;
            due("holds(" + s + ")", x.holds(s), set >= 0 && s >= 0 && (set >> s & 1) == 1);
            due("steps(" + s + ")", x.steps(s), m.steps(s));
        }
    }

    private static int bindersLeft;

    // A sound term of at most room tokens and bindersLeft binders.

    private static void grow(List<Integer> into, int room, int bound) {
        int kind = room == 1 ? 0 : pick(10);
        if (kind < 1) {
            int i = pick(3);
            into.add((bound >> i & 1) == 1 && pick(4) > 0 ? 16 + i : pick(6));
        } else if (kind < 4 && bindersLeft > 0) {
            bindersLeft--;
            int t = pick(6);
            into.add(10 + t);
            grow(into, room - 1, bound | 1 << t % 3);
        } else if (kind < 7 && room > 2) {
            into.add(6 + pick(2));
            int left = 1 + pick(room - 2);
            grow(into, left, bound);
            grow(into, room - 1 - left, bound);
        } else {
            into.add(8 + pick(2));
            grow(into, room - 1, bound);
        }
    }

    private static void shake(Run run) {
        for (int k = pick(12); k > 0; k--) {
            run.step(pick(6), pick(6), pick(2) > 0);
        }
        for (int i = 0; i < 3; i++) {
            run.mark(i, pick(64));
        }
    }

    // Two binders of unlike kinds around a body that uses both X: the inner set then depends
    // on the outer one, and a wrong order of rounds shows.
    private static void alternatingFormulas() {
        for (int n = 0; n < 6000; n++) {
            int outer = pick(3);
            int inner = (outer + 1 + pick(2)) % 3;
            int kind = pick(2);
            List<Integer> formula = new ArrayList<>();
            formula.add((kind == 0 ? 10 : 13) + outer);
            formula.add((kind == 0 ? 13 : 10) + inner);
            bindersLeft = n % 20 == 0 ? 1 : 0;
            grow(formula, 5 + pick(6), 1 << outer | 1 << inner);
            if (!formula.contains(16 + outer) || !formula.contains(16 + inner)) {
                continue;
            }
            Run run = new Run();
            for (int t : formula) {
                run.token(t);
            }
            for (int k = 0; k < 12; k++) {
                shake(run);
                run.ask();
            }
            run.turn();
            run.ask();
        }
    }

    // Formulas sought out for needing very many rounds, each with the steps and the marks.
    private static void manyRounds() {
        int[][][] cases = {
            {{14, 15, 13, 6, 3, 9, 10, 7, 18, 7, 17, 2}, {13, 63, 1, 21, 32, 63}, {2, 9, 4}},
            {{12, 11, 10, 8, 10, 7, 5, 6, 18, 7, 16, 17}, {19, 52, 40, 32, 17, 48}, {11, 34, 55}},
            {{15, 14, 13, 13, 8, 7, 7, 17, 6, 18, 18, 16}, {46, 12, 40, 32, 1, 0}, {32, 3, 7}},
            {{11, 7, 15, 13, 14, 7, 8, 16, 8, 18, 9, 17}, {58, 20, 48, 0, 8, 16}, {53, 7, 43}}};
        for (int[][] one : cases) {
            Run run = new Run();
            for (int t : one[0]) {
                run.token(t);
            }
            for (int s = 0; s < 6; s++) {
                for (int t = 0; t < 6; t++) {
                    run.step(s, t, (one[1][s] >> t & 1) == 1);
                }
            }
            for (int i = 0; i < 3; i++) {
                run.mark(i, one[2][i]);
            }
            run.ask();
            run.turn();
            run.ask();
        }
    }

    private static void soundFormulas() {
        for (int n = 0; n < 600; n++) {
            Run run = new Run();
            for (int k = 0; k < 8; k++) {
                List<Integer> formula = new ArrayList<>();
                // Four nested binders cost the model 64^4 rounds: most runs stay below.
                bindersLeft = n % 30 == 0 ? 4 : 3;
                grow(formula, 1 + pick(12), 0);
                run.wipe();
                for (int t : formula) {
                    run.token(t);
                }
                shake(run);
                run.ask();
                run.turn();
                run.ask();
            }
        }
    }

    private static void anyCalls() {
        for (int n = 0; n < 400; n++) {
            Run run = new Run();
            while (run.calls < 500) {
                int what = pick(20);
                if (what < 2) {
                    run.step(pick(8) - 1, pick(8) - 1, pick(2) == 0);
                } else if (what < 4) {
                    run.mark(pick(5) - 1, pick(70) - 3);
                } else if (what < 14) {
                    run.token(pick(21) - 1);
                } else if (what < 15) {
                    run.turn();
                } else if (what < 16) {
                    run.wipe();
                } else {
                    run.ask();
                }
            }
        }
    }

    // Every list of up to four tokens, in a system that tells most of them apart.
    private static void shortFormulas() {
        int lists = 1;
        for (int length = 0; length <= 4; length++) {
            for (int n = 0; n < lists; n++) {
                Run run = new Run();
                int[][] steps = {{0, 1}, {1, 2}, {2, 0}, {2, 3}, {3, 3}, {4, 5}};
                for (int[] step : steps) {
                    run.step(step[0], step[1], true);
                }
                run.mark(0, 0b001001);
                run.mark(1, 0b010011);
                run.mark(2, 0b100110);
                for (int k = 0, rest = n; k < length; k++, rest /= 19) {
                    run.token(rest % 19);
                }
                run.ask();
            }
            lists *= 19;
        }
    }

    public static void main(String[] args) {
        shortFormulas();
        soundFormulas();
        alternatingFormulas();
        manyRounds();
        anyCalls();
        System.out.println(wrong == 0 ? "all answers are as due" : wrong + " answers are not as due");
        if (wrong != 0) {
            System.exit(1);
        }
    }
}
