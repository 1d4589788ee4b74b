import java.util.ArrayList;
import java.util.Arrays;
import java.util.List;
import java.util.function.Consumer;

// The document's sentences in their general form, from the first line on. The meaning of each token
// is tried on every set, or pair of sets, that the terms behind it can have; least and greatest by
// the words that define them; and each call by what it changes and by all that it must leave alone.
public final class DocumentTest {
    private static int wrong = 0;
    private static int asked = 0;
    private static String sentence = "";
    private static long seed = 20261116L;

    private static void sentence(String place, String words, Runnable test) {
        sentence = place + ", \"" + words + "\"";
        int before = asked;
        test.run();
        if (asked == before) {
            wrong++;
            System.out.println(sentence + ": nothing was tested");
        }
    }

    private static void due(String call, int got, int want) {
        asked++;
        if (got != want && wrong++ < 40) {
            System.out.println(sentence + ": " + call + " answered " + got + ", due is " + want);
        }
    }

    private static void due(String call, boolean got, boolean want) {
        due(call, got ? 1 : 0, want ? 1 : 0);
    }

    // The same numbers in every run.
    private static int pick(int bound) {
        seed = seed * 6364136223846793005L + 1442695040888963407L;
        return (int) ((seed >>> 33) % bound);
    }

    private static boolean in(int set, int s) {
        return (set >> s & 1) == 1;
    }

    private static String text(int[] formula) {
        return Arrays.toString(formula);
    }

    private static int[] join(int[]... parts) {
        return Arrays.stream(parts).flatMapToInt(Arrays::stream).toArray();
    }

    private static int[] only(int... tokens) {
        return tokens;
    }

    private static void write(ModalJudge x, int... formula) {
        for (int t : formula) {
            x.token(t);
        }
    }

    // A system as nine numbers: where the steps of each state lead, and who has each mark.
    private static ModalJudge object(int[] system, int[] formula) {
        ModalJudge x = new ModalJudge();
        for (int s = 0; s < 6; s++) {
            for (int t = 0; t < 6; t++) {
                if (in(system[s], t)) {
                    x.step(s, t, true);
                }
            }
        }
        for (int i = 0; i < 3; i++) {
            x.mark(i, system[6 + i]);
        }
        write(x, formula);
        return x;
    }

    private static int setOf(int[] system, int[] formula) {
        return object(system, formula).set();
    }

    // Few steps leave states apart that many would make alike, so a state mostly has one or two.
    private static int[] anySystem() {
        int[] system = new int[9];
        for (int s = 0; s < 6; s++) {
            for (int k = pick(4); k > 0; k--) {
                system[s] |= 1 << pick(6);
            }
        }
        for (int i = 6; i < 9; i++) {
            system[i] = pick(64);
        }
        return system;
    }

    // ---- Terms made up at random

    // Stands in a term for the X that is bound around it, or for a mark in its stead.
    private static final int GIVEN = 100;
    private static final int NONE = -1;

    private static int bindersLeft;

    // A term of at most room tokens and bindersLeft binders, without mark 2 and no mark 2. GIVEN
    // stands for X of the number given, and so only where no binder in the term hides that X.
    private static void grow(List<Integer> into, int room, int bound, int given) {
        int kind = room == 1 ? 0 : pick(10);
        if (kind < 1) {
            growLeaf(into, bound, given);
        } else if (kind < 4 && bindersLeft > 0) {
            bindersLeft--;
            int i = pick(3);
            into.add((pick(2) == 0 ? 10 : 13) + i);
            grow(into, room - 1, bound | 1 << i, i == given ? NONE : given);
        } else if (kind < 7 && room > 2) {
            into.add(6 + pick(2));
            int left = 1 + pick(room - 2);
            grow(into, left, bound, given);
            grow(into, room - 1 - left, bound, given);
        } else {
            into.add(8 + pick(2));
            grow(into, room - 1, bound, given);
        }
    }

    private static void growLeaf(List<Integer> into, int bound, int given) {
        int i = pick(3);
        int[] plain = {0, 1, 3, 4};
        if (given != NONE && pick(3) > 0) {
            into.add(GIVEN);
        } else if (in(bound, i) && pick(4) > 0) {
            into.add(16 + i);
        } else {
            into.add(plain[pick(4)]);
        }
    }

    private static int[] anyTerm(int room, int binders, int given) {
        List<Integer> term = new ArrayList<>();
        bindersLeft = binders;
        grow(term, room, 0, given);
        return term.stream().mapToInt(t -> t).toArray();
    }

    private static int[] filled(int[] term, int with) {
        return Arrays.stream(term).map(t -> t == GIVEN ? with : t).toArray();
    }

    // ---- Terms

    private static void markAndNoMark() {
        for (int i = 0; i < 3; i++) {
            for (int set = 0; set < 64; set++) {
                int[] system = anySystem();
                system[6 + i] = set;
                due("set() of mark " + i, setOf(system, only(i)), set);
                due("set() of no mark " + i, setOf(system, only(3 + i)), 63 - set);
            }
        }
    }

    private static void andAndOr() {
        for (int one = 0; one < 64; one++) {
            for (int two = 0; two < 64; two++) {
                int[] system = {0, 0, 0, 0, 0, 0, one, 0, two};
                String of = " of " + one + " and " + two;
                due("set() of and" + of, setOf(system, only(6, 0, 2)), one & two);
                due("set() of or" + of, setOf(system, only(7, 0, 2)), one | two);
            }
        }
    }

    private static int statesByTheWords(int[] system, int set, boolean some) {
        int states = 0;
        for (int s = 0; s < 6; s++) {
            int into = 0;
            int past = 0;
            for (int t = 0; t < 6; t++) {
                if (in(system[s], t)) {
                    into += in(set, t) ? 1 : 0;
                    past += in(set, t) ? 0 : 1;
                }
            }
            if (some ? into > 0 : past == 0) {
                states |= 1 << s;
            }
        }
        return states;
    }

    private static void dueSomeAndAll(int[] system) {
        for (int set = 0; set < 64; set++) {
            system[7] = set;
            String of = " of " + set + " in " + text(system);
            due("set() of some" + of, setOf(system, only(8, 1)), statesByTheWords(system, set, true));
            due("set() of all" + of, setOf(system, only(9, 1)), statesByTheWords(system, set, false));
        }
    }

    private static void someAndAll() {
        for (int s = 0; s < 6; s++) {
            for (int targets = 0; targets < 64; targets++) {
                int[] system = new int[9];
                system[s] = targets;
                dueSomeAndAll(system);
            }
        }
        for (int n = 0; n < 40; n++) {
            dueSomeAndAll(anySystem());
        }
    }

    // The meaning of a token rests on the sets of the terms behind it, whatever they look like.
    private static void longerTermsBehind() {
        for (int n = 0; n < 1500; n++) {
            int[] system = anySystem();
            int[] one = anyTerm(1 + pick(6), 2, NONE);
            int[] two = anyTerm(1 + pick(5), 2, NONE);
            int first = setOf(system, one);
            int second = setOf(system, two);
            String of = " of " + text(one) + " and " + text(two) + " in " + text(system);
            due("set() of and" + of, setOf(system, join(only(6), one, two)), first & second);
            due("set() of or" + of, setOf(system, join(only(7), one, two)), first | second);
            due("set() of some" + of, setOf(system, join(only(8), one)), statesByTheWords(system, first, true));
            due("set() of all" + of, setOf(system, join(only(9), one)), statesByTheWords(system, first, false));
        }
    }

    // The term is judged with mark 2 where X stands, and mark 2 is given each of the 64 sets.
    private static void dueByTheDefinition(int[] system, int i, int[] term) {
        int least = setOf(system, join(only(10 + i), filled(term, 16 + i)));
        int greatest = setOf(system, join(only(13 + i), filled(term, 16 + i)));
        String of = " X" + i + " in front of " + text(term) + " in " + text(system);
        ModalJudge open = object(system, filled(term, 2));
        int fixed = 0;
        for (int z = 0; z < 64; z++) {
            open.mark(2, z);
            if (open.set() == z) {
                fixed++;
                due("least" + of + ": its set without those of the fixed set " + z, least & ~z, 0);
                due("greatest" + of + ": the fixed set " + z + " without those of its set", z & ~greatest, 0);
            }
        }
        due("that there is a fixed set for" + of, fixed > 0, true);
        for (int z : new int[] {least, greatest}) {
            due("that " + z + " is a set, for" + of, z >= 0 && z < 64, true);
            open.mark(2, z);
            due("set() of the term given " + z + ", for" + of, open.set(), z);
        }
    }

    private static void leastAndGreatest() {
        for (int n = 0; n < 2400; n++) {
            int i = n % 3;
            dueByTheDefinition(anySystem(), i, anyTerm(2 + pick(10), 3, i));
        }
        // Terms in which the inner set hangs on the outer one, and the inner one is of the other kind.
        int[][] terms = {
            {10, 8, 7, 6, 0, GIVEN, 16}, {13, 9, 6, 7, 3, GIVEN, 16}, {13, 7, 6, 0, 8, GIVEN, 6, 4, 8, 16},
            {10, 6, 7, 0, 9, GIVEN, 7, 4, 8, 16}, {10, 13, 7, 6, 0, 8, GIVEN, 8, 16},
            {7, 8, GIVEN, 13, 8, 6, 16, GIVEN}};
        for (int n = 0; n < 40; n++) {
            for (int[] term : terms) {
                dueByTheDefinition(anySystem(), 1 + n % 2, term);
            }
        }
    }

    // An X hidden by an inner binder of the same number is as good as one with a name of its own.
    private static void innermostByOtherNames() {
        for (int n = 0; n < 600; n++) {
            int[] system = anySystem();
            int outer = (pick(2) == 0 ? 10 : 13);
            int inner = (pick(2) == 0 ? 10 : 13);
            int[] term = anyTerm(1 + pick(5), 0, 0);
            int i = pick(3);
            int j = (i + 1 + pick(2)) % 3;
            int[] front = {outer + i, 6 + pick(2), 8 + pick(2), 16 + i};
            int[] same = join(front, only(inner + i), filled(term, 16 + i));
            int[] other = join(front, only(inner + j), filled(term, 16 + j));
            due("set() of " + text(same) + ", as of " + text(other) + " in " + text(system),
                setOf(system, same), setOf(system, other));
        }
    }

    // ---- What a call changes, and that it changes nothing else

    private static final int[] TWELVE = {7, 10, 7, 0, 8, 16, 13, 6, 1, 9, 8, 16};

    private static final int[][] FORMULAS = {
        {}, {0}, {5}, {6, 1}, {7, 1}, {1, 2}, {16}, {10}, {11, 16}, {8, 9, 2}, {10, 7, 0, 8, 16},
        {13, 11, 8, 7, 6, 0, 16, 17}, {15, 14, 13, 12, 9, 18}, {10, 11, 12, 13, 14, 0},
        {7, 10, 7, 0, 8, 16, 13, 6, 1, 8, 16}, {8, 9, 8, 9, 8, 9, 8, 9, 8, 9, 8}, TWELVE,
        {18, 17, 16, 15, 14, 13, 12, 11, 10, 9, 8, 7}, {6, 6, 6, 6, 6, 6, 0, 1, 2, 3, 4, 5}};

    private static final int[][] SYSTEMS = {
        {0, 0, 0, 0, 0, 0, 0, 0, 0}, {63, 63, 63, 63, 63, 63, 63, 63, 63},
        {2, 4, 9, 8, 32, 0, 8, 3, 34}, {33, 20, 6, 0, 24, 7, 41, 22, 13}};

    private static void answers(ModalJudge x, List<Integer> into) {
        into.add(x.sound() ? 1 : 0);
        into.add(x.set());
        into.add(x.depth());
        for (int s = 0; s < 6; s++) {
            into.add(x.holds(s) ? 1 : 0);
        }
    }

    // All that calls can show of an object: the steps, the formula as it is, turned and gone on
    // with, how many tokens it has, and the marks.
    private static int[] picture(ModalJudge x) {
        List<Integer> shown = new ArrayList<>();
        for (int s = 0; s < 6; s++) {
            shown.add(x.steps(s));
        }
        answers(x, shown);
        shown.add(x.turn());
        answers(x, shown);
        for (int t : new int[] {1, 2, 16}) {
            shown.add(x.token(t));
            answers(x, shown);
        }
        shown.add(x.wipe());
        for (int i = 0; i < 3; i++) {
            x.token(i);
            shown.add(x.set());
            x.wipe();
        }
        return shown.stream().mapToInt(n -> n).toArray();
    }

    // After the call the object must look like one that was made as the call should leave it.
    private static void dueToLeave(String call, Consumer<ModalJudge> made, int[] system, int[] formula,
            int[] systemThen, int[] formulaThen) {
        ModalJudge x = object(system, formula);
        made.accept(x);
        asked++;
        int[] got = picture(x);
        int[] want = picture(object(systemThen, formulaThen));
        if (!Arrays.equals(got, want) && wrong++ < 40) {
            System.out.println(sentence + ": " + call + " with " + text(formula) + " in " + text(system)
                + " leaves " + text(got) + ", due is " + text(want));
        }
    }

    private static int[] with(int[] system, int place, int set) {
        int[] changed = system.clone();
        changed[place] = set;
        return changed;
    }

    private static void stepChanges() {
        for (int[] system : SYSTEMS) {
            for (int[] formula : FORMULAS) {
                for (int n = 0; n < 36; n++) {
                    int s = n / 6;
                    int t = n % 6;
                    dueToLeave("step(" + s + ", " + t + ", true)", x -> x.step(s, t, true), system, formula,
                        with(system, s, system[s] | 1 << t), formula);
                    dueToLeave("step(" + s + ", " + t + ", false)", x -> x.step(s, t, false), system, formula,
                        with(system, s, system[s] & ~(1 << t)), formula);
                }
            }
        }
    }

    private static void markChanges() {
        for (int[] system : SYSTEMS) {
            for (int[] formula : FORMULAS) {
                for (int n = 0; n < 3 * 64; n++) {
                    int i = n / 64;
                    int set = n % 64;
                    dueToLeave("mark(" + i + ", " + set + ")", x -> x.mark(i, set), system, formula,
                        with(system, 6 + i, set), formula);
                }
            }
        }
    }

    private static void tokenChanges() {
        for (int[] system : SYSTEMS) {
            for (int[] formula : FORMULAS) {
                for (int n = 0; n < 19; n++) {
                    int t = n;
                    int[] longer = formula.length < 12 ? join(formula, only(t)) : formula;
                    dueToLeave("token(" + t + ")", x -> x.token(t), system, formula, system, longer);
                }
            }
        }
    }

    private static void wipeChanges() {
        for (int[] system : SYSTEMS) {
            for (int[] formula : FORMULAS) {
                dueToLeave("wipe()", ModalJudge::wipe, system, formula, system, only());
            }
        }
    }

    private static int counterpart(int t) {
        int[] of = {3, 4, 5, 0, 1, 2, 7, 6, 9, 8, 13, 14, 15, 10, 11, 12, 16, 17, 18};
        return of[t];
    }

    private static int[] turned(int[] formula) {
        return Arrays.stream(formula).map(DocumentTest::counterpart).toArray();
    }

    // That the turned formula holds just where the formula doesn't follows from the meaning of its tokens.
    private static void turnChanges() {
        for (int[] system : SYSTEMS) {
            for (int[] formula : FORMULAS) {
                dueToLeave("turn()", ModalJudge::turn, system, formula, system, turned(formula));
            }
        }
        for (int n = 0; n < 1500; n++) {
            int[] system = anySystem();
            int[] formula = anyTerm(1 + pick(12), 4, NONE);
            dueToLeave("turn()", ModalJudge::turn, system, formula, system, turned(formula));
            ModalJudge x = object(system, formula);
            int set = x.set();
            x.turn();
            due("set() of turned " + text(formula) + " in " + text(system), x.set(), 63 - set);
        }
    }

    private static void askingChangesNothing() {
        for (int[] system : SYSTEMS) {
            for (int[] formula : FORMULAS) {
                dueToLeave("sound()", ModalJudge::sound, system, formula, system, formula);
                dueToLeave("set()", ModalJudge::set, system, formula, system, formula);
                dueToLeave("depth()", ModalJudge::depth, system, formula, system, formula);
                for (int n = -1; n <= 6; n++) {
                    int s = n;
                    dueToLeave("holds(" + s + ")", x -> x.holds(s), system, formula, system, formula);
                    dueToLeave("steps(" + s + ")", x -> x.steps(s), system, formula, system, formula);
                }
            }
        }
    }

    // ---- What the asking calls answer

    private static void holdsIsInTheSet() {
        for (int n = 0; n < 1500; n++) {
            int[] system = anySystem();
            int[] formula = anyTerm(1 + pick(12), 4, NONE);
            ModalJudge x = object(system, formula);
            int set = x.set();
            due("that " + text(formula) + " has a set", set >= 0 && set < 64, true);
            for (int s = -2; s < 8; s++) {
                due("holds(" + s + ") of " + text(formula) + " in " + text(system), x.holds(s),
                    s >= 0 && s < 6 && in(set, s));
            }
        }
    }

    // The place behind a term: how many terms are still to come, counted from the front.
    private static int endOf(int[] formula, int from) {
        int missing = 1;
        int p = from;
        while (missing > 0) {
            int t = formula[p++];
            missing += t == 6 || t == 7 ? 1 : t >= 8 && t <= 15 ? 0 : -1;
        }
        return p;
    }

    private static int longestRow(int[] formula) {
        int[] rowTo = new int[formula.length];
        int longest = 0;
        for (int p = 0; p < formula.length; p++) {
            if (formula[p] >= 10 && formula[p] <= 15) {
                rowTo[p] = 1;
                for (int q = 0; q < p; q++) {
                    if (rowTo[q] > 0 && p < endOf(formula, q + 1)) {
                        rowTo[p] = Math.max(rowTo[p], rowTo[q] + 1);
                    }
                }
                longest = Math.max(longest, rowTo[p]);
            }
        }
        return longest;
    }

    private static void depthIsTheLongestRow() {
        for (int n = 0; n < 4000; n++) {
            int[] formula = anyTerm(1 + pick(12), 4, NONE);
            ModalJudge x = new ModalJudge();
            write(x, formula);
            due("depth() of " + text(formula), x.depth(), longestRow(formula));
        }
    }

    private static void stepsAsASet() {
        for (int n = 0; n < 200; n++) {
            int[] system = anySystem();
            ModalJudge x = object(system, only());
            for (int s = 0; s < 6; s++) {
                due("steps(" + s + ") in " + text(system), x.steps(s), system[s]);
            }
        }
    }

    private static void terms() {
        sentence("Terms", "for mark i the states that have it; for no mark i those that don't",
            DocumentTest::markAndNoMark);
        sentence("Terms", "for and, or what the two sets have in common, or what is in one of them",
            DocumentTest::andAndOr);
        sentence("Terms", "for some the states that have a step to a state in the set of the term behind it, "
            + "for all the states all of whose steps lead into that set", DocumentTest::someAndAll);
        sentence("Terms", "the set of the term behind it", DocumentTest::longerTermsBehind);
        sentence("Terms", "for least Xi (greatest Xi) the smallest (the largest) set Z of states with Z being the "
            + "set of the term behind it when Xi is given Z (there always is one)", DocumentTest::leastAndGreatest);
        sentence("Terms", "A token 16 + i means the Xi that is bound by the innermost such token around it",
            DocumentTest::innermostByOtherNames);
    }

    private static void promises() {
        sentence("promise 2", "Makes a step from s to t be there or not.", DocumentTest::stepChanges);
        sentence("promise 3", "Gives exactly the states of a set the mark i.", DocumentTest::markChanges);
        sentence("promise 4", "Adds a token to the formula.", DocumentTest::tokenChanges);
        sentence("promise 5", "Makes the formula empty", DocumentTest::wipeChanges);
        sentence("promise 6", "Replaces every token of the formula by its counterpart", DocumentTest::turnChanges);
        sentence("promise 8", "Whether a state is in the formula's set", DocumentTest::holdsIsInTheSet);
        sentence("promise 10", "The greatest number of tokens from 10 to 15 each of which, but the first, lies "
            + "within the term behind the one before", DocumentTest::depthIsTheLongestRow);
        sentence("promise 11", "The states to which a state has steps, as a set", DocumentTest::stepsAsASet);
        sentence("Not promised", "Nothing is promised beyond the answers and state changes described above",
            DocumentTest::askingChangesNothing);
    }

    public static void main(String[] args) {
        terms();
        promises();
        System.out.println(wrong == 0 ? "all answers are as due" : wrong + " answers are not as due");
        if (wrong != 0) {
            System.exit(1);
        }
    }
}
