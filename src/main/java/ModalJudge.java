/** Formulas with least and greatest fixed points, judged in a small system. */
public final class ModalJudge {
    public static final int BAD = -1;
    public static final int FULL = -2;
    public static final int UNSOUND = -3;

    private static final int STATES = 6;
    private static final int EVERY_STATE = 63;
    private static final int MARKS = 3;
    private static final int MOST_TOKENS = 12;
    private static final int MOST_FIXED = 4;

    private static final int NO_MARK = 3;
    private static final int AND = 6;
    private static final int OR = 7;
    private static final int SOME = 8;
    private static final int ALL = 9;
    private static final int LEAST = 10;
    private static final int GREATEST = 13;
    private static final int VARIABLE = 16;
    private static final int LAST_TOKEN = 18;

    // The end of a term that the formula breaks off: a place behind every true end.
    private static final int NOWHERE = 13;
    private static final int PLACES = 14;
    private static final int NO_BINDER = -1;

    // A fixed point is met after at most 7 rounds, and 4 of them may be nested:
    // 12 * 7 * 7 * 7 * 7 looks at a token are the most that a formula can need.
    private static final int ENOUGH_LOOKS = 1000000;

    // Index: the state that the steps start from; value: the set they lead to.
    private final int[] targets = new int[STATES];
    private final int[] marked = new int[MARKS];
    private final int[] tokens = new int[MOST_TOKENS];
    private int count = 0;

    // What follows is worked out anew from the formula whenever it is asked for.
    // Index: a token's place in the formula. They have room for NOWHERE,
    // so that no place worked out from a broken formula lies outside them.
    private final int[] end = new int[PLACES];
    private final int[] values = new int[PLACES];
    private final int[] given = new int[PLACES];

    public ModalJudge() {
    }

    public boolean step(int s, int t, boolean there) {
        if (!isState(s) || !isState(t)) {
            return false;
        }
        if (there) {
            targets[s] |= 1 << t;
        } else {
            targets[s] &= ~(1 << t);
        }
        return true;
    }

    public boolean mark(int i, int set) {
        if (i < 0 || i >= MARKS || set < 0 || set > EVERY_STATE) {
            return false;
        }
        marked[i] = set;
        return true;
    }

    public int token(int t) {
        if (count >= MOST_TOKENS) {
            return FULL;
        }
        if (t < 0 || t > LAST_TOKEN) {
            return BAD;
        }
        tokens[count] = t;
        count++;
        return count;
    }

    public int wipe() {
        int had = count;
        count = 0;
        return had;
    }

    public int turn() {
        int changed = 0;
        for (int p = 0; p < count; p++) {
            int turned = counterpart(tokens[p]);
            if (turned != tokens[p]) {
                tokens[p] = turned;
                changed++;
            }
        }
        return changed;
    }

    public boolean sound() {
        return isSound();
    }

    public boolean holds(int s) {
        if (!isState(s) || !isSound()) {
            return false;
        }
        return (judge() >> s & 1) == 1;
    }

    public int set() {
        return isSound() ? judge() : UNSOUND;
    }

    public int depth() {
        return isSound() ? deepestNesting() : UNSOUND;
    }

    public int steps(int s) {
        return isState(s) ? targets[s] : BAD;
    }

    private static boolean isState(int s) {
        return s >= 0 && s < STATES;
    }

    private static boolean isFixed(int t) {
        return t >= LEAST && t < VARIABLE;
    }

    private static boolean isLeast(int t) {
        return t >= LEAST && t < GREATEST;
    }

    private static boolean isVariable(int t) {
        return t >= VARIABLE;
    }

    private static boolean hasTwoTerms(int t) {
        return t == AND || t == OR;
    }

    private static boolean hasOneTerm(int t) {
        return t == SOME || t == ALL || isFixed(t);
    }

    private static int counterpart(int t) {
        if (isVariable(t)) {
            return t;
        }
        if (t >= LEAST) {
            return isLeast(t) ? t + (GREATEST - LEAST) : t - (GREATEST - LEAST);
        }
        if (t >= SOME) {
            return t == SOME ? ALL : SOME;
        }
        if (t >= AND) {
            return t == AND ? OR : AND;
        }
        return t < NO_MARK ? t + NO_MARK : t - NO_MARK;
    }

    private boolean isSound() {
        findEnds();
        return end[0] == count && countFixed() <= MOST_FIXED && everyVariableIsBound();
    }

    // From the back, since a term's end is known only from the terms behind its token.
    private void findEnds() {
        end[NOWHERE] = NOWHERE;
        end[count] = NOWHERE;
        for (int p = count - 1; p >= 0; p--) {
            if (hasTwoTerms(tokens[p])) {
                end[p] = end[end[p + 1]];
            } else if (hasOneTerm(tokens[p])) {
                end[p] = end[p + 1];
            } else {
                end[p] = p + 1;
            }
        }
    }

    private int countFixed() {
        int fixed = 0;
        for (int p = 0; p < count; p++) {
            if (isFixed(tokens[p])) {
                fixed++;
            }
        }
        return fixed;
    }

    private boolean everyVariableIsBound() {
        for (int p = 0; p < count; p++) {
            if (isVariable(tokens[p]) && binderOf(p) == NO_BINDER) {
                return false;
            }
        }
        return true;
    }

    // Going outwards, so that the innermost of several binders is the one found.
    private int binderOf(int p) {
        int least = tokens[p] - VARIABLE + LEAST;
        int greatest = tokens[p] - VARIABLE + GREATEST;
        for (int q = p - 1; q >= 0; q--) {
            if ((tokens[q] == least || tokens[q] == greatest) && end[q] > p) {
                return q;
            }
        }
        return NO_BINDER;
    }

    private int deepestNesting() {
        int deepest = 0;
        for (int p = 0; p < count; p++) {
            int nesting = isFixed(tokens[p]) ? 1 + fixedAround(p) : 0;
            if (nesting > deepest) {
                deepest = nesting;
            }
        }
        return deepest;
    }

    private int fixedAround(int p) {
        int around = 0;
        for (int q = 0; q < p; q++) {
            if (isFixed(tokens[q]) && end[q] > p) {
                around++;
            }
        }
        return around;
    }

    // The set of a sound formula, worked out from its last token to its first, so that the
    // terms behind a token are known before it. A fixed point whose set is not yet met sends
    // the work back to the end of its term; the ones within must then start afresh, for
    // their sets may depend on its own.
    private int judge() {
        startFixedPoints(0, count);
        int p = count - 1;
        for (int look = 0; look < ENOUGH_LOOKS && p >= 0; look++) {
            values[p] = valueAt(p);
            if (isFixed(tokens[p]) && values[p] != given[p]) {
                given[p] = values[p];
                startFixedPoints(p + 1, end[p]);
                p = end[p] - 1;
            } else {
                p--;
            }
        }
        return values[0];
    }

    // No formula can take a state out of a set by giving an X more states, so the rounds
    // from the empty set end at the smallest fixed set, those from the full set at the largest.
    private void startFixedPoints(int from, int to) {
        for (int p = from; p < to; p++) {
            given[p] = isLeast(tokens[p]) ? 0 : EVERY_STATE;
        }
    }

    private int valueAt(int p) {
        int t = tokens[p];
        if (t < NO_MARK) {
            return marked[t];
        }
        if (t < AND) {
            return EVERY_STATE & ~marked[t - NO_MARK];
        }
        if (isVariable(t)) {
            int binder = binderOf(p);
            return binder == NO_BINDER ? 0 : given[binder];
        }
        int behind = values[p + 1];
        switch (t) {
            case AND:
                return behind & values[end[p + 1]];
            case OR:
                return behind | values[end[p + 1]];
            case SOME:
                return statesWithStepInto(behind);
            case ALL:
                return EVERY_STATE & ~statesWithStepInto(EVERY_STATE & ~behind);
            default:
                return behind;
        }
    }

    private int statesWithStepInto(int set) {
        int states = 0;
        for (int s = 0; s < STATES; s++) {
            if ((targets[s] & set) != 0) {
                states |= 1 << s;
            }
        }
        return states;
    }
}
