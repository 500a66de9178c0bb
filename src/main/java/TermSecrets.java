/** What somebody who has overheard some messages can put together, and what would give a secret away. */
public final class TermSecrets {
    private static final int ATOM_COUNT = 8;
    private static final int MOST_TERMS = 28;

    private static final int REFUSED = -1;
    private static final int GOAL_IS_KNOWN = -2;

    private static final int PAIR = 1;
    private static final int LOCKED = 2;

    // A set of terms is an int whose bit t stands for term t: 28 terms fit into one.
    private static final int ATOM_SETS = 1 << ATOM_COUNT;

    // An atom's kind stays 0, so that no search for a pair or a locked term finds it.
    private final int[] kinds = new int[MOST_TERMS];
    // The first term of a pair, or the key of a locked term.
    private final int[] firsts = new int[MOST_TERMS];
    // The second term of a pair, or the body of a locked term.
    private final int[] seconds = new int[MOST_TERMS];

    private int held;
    private int heardSet;

    public TermSecrets() {
        held = ATOM_COUNT;
        heardSet = 0;
    }

    public int pair(int a, int b) {
        return findOrMake(PAIR, a, b);
    }

    public int lock(int key, int body) {
        return findOrMake(LOCKED, key, body);
    }

    public int hear(int term) {
        if (!isTerm(term)) {
            return REFUSED;
        }
        heardSet = heardSet | (1 << term);
        return countKnown();
    }

    public int unhear(int term) {
        if (!isTerm(term)) {
            return REFUSED;
        }
        heardSet = heardSet & ~(1 << term);
        return countKnown();
    }

    public int knows(int term) {
        if (!isTerm(term)) {
            return REFUSED;
        }
        int knownSet = knownFrom(heardSet);
        return has(knownSet, term) ? 1 : 0;
    }

    public int known() {
        return countKnown();
    }

    public int would(int extra, int goal) {
        if (!isTerm(extra) || !isTerm(goal)) {
            return REFUSED;
        }
        return wouldGive(1 << extra, goal) ? 1 : 0;
    }

    public int leak(int goal) {
        if (!isTerm(goal)) {
            return REFUSED;
        }
        if (wouldGive(0, goal)) {
            return GOAL_IS_KNOWN;
        }
        // A known term adds nothing when it is heard too, so none of them can be found here.
        for (int term = 0; term < goal; term++) {
            if (wouldGive(1 << term, goal)) {
                return term;
            }
        }
        return goal;
    }

    public int atomsFor(int goal) {
        if (!isTerm(goal)) {
            return REFUSED;
        }
        // All eight atoms make every term known, so only smaller sets have to be tried.
        int least = ATOM_COUNT;
        for (int atoms = 0; atoms < ATOM_SETS; atoms++) {
            int size = sizeOf(atoms);
            if (size < least && wouldGive(atoms, goal)) {
                least = size;
            }
        }
        return least;
    }

    public int spare() {
        int knownSet = knownFrom(heardSet);
        int count = 0;
        for (int term = 0; term < held; term++) {
            if (has(heardSet, term)) {
                int knownWithout = knownFrom(heardSet & ~(1 << term));
                if (knownWithout == knownSet) {
                    count++;
                }
            }
        }
        return count;
    }

    private boolean isTerm(int number) {
        return number >= 0 && number < held;
    }

    private int findOrMake(int kind, int first, int second) {
        if (!isTerm(first) || !isTerm(second)) {
            return REFUSED;
        }
        for (int term = ATOM_COUNT; term < held; term++) {
            if (kinds[term] == kind && firsts[term] == first && seconds[term] == second) {
                return term;
            }
        }
        if (held >= MOST_TERMS) {
            return REFUSED;
        }
        int made = held;
        kinds[made] = kind;
        firsts[made] = first;
        seconds[made] = second;
        held = made + 1;
        return made;
    }

    private int countKnown() {
        int knownSet = knownFrom(heardSet);
        return sizeOf(knownSet);
    }

    private boolean wouldGive(int extraSet, int goal) {
        int knownSet = knownFrom(heardSet | extraSet);
        return has(knownSet, goal);
    }

    private int knownFrom(int startSet) {
        int set = startSet;
        // Every round but the last adds a term, so there can't be more rounds than terms and one.
        for (int round = 0; round <= MOST_TERMS; round++) {
            int before = set;
            for (int term = ATOM_COUNT; term < held; term++) {
                set = withStepAt(set, term);
            }
            if (set == before) {
                break;
            }
        }
        return set;
    }

    private int withStepAt(int set, int term) {
        int first = 1 << firsts[term];
        int second = 1 << seconds[term];
        int both = first | second;
        // Putting together is the same for a pair and for a locked term; only taking apart differs.
        if ((set & both) == both) {
            return set | (1 << term);
        }
        if (!has(set, term)) {
            return set;
        }
        if (kinds[term] == PAIR) {
            return set | both;
        }
        return (set & first) != 0 ? set | second : set;
    }

    private static boolean has(int set, int term) {
        return (set & (1 << term)) != 0;
    }

    private static int sizeOf(int set) {
        int size = 0;
        for (int term = 0; term < MOST_TERMS; term++) {
            if (has(set, term)) {
                size++;
            }
        }
        return size;
    }
}
