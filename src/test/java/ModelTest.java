import java.util.ArrayList;
import java.util.HashSet;
import java.util.List;
import java.util.Set;

// Many long runs of calls, each answer held against a slow model that follows the document word by word.
public final class ModelTest {
    private static final int RUNS = 400;
    private static final int CALLS = 512;
    private static final int MOST_TOLD = 20;

    private static int wrong = 0;

    public static void main(String[] args) {
        for (int run = 1; run <= RUNS; run++) {
            play(run);
        }
        System.out.println(wrong == 0 ? "all answers are as due" : wrong + " answers are not as due");
        if (wrong != 0) {
            System.exit(1);
        }
    }

    private static void play(int run) {
        Numbers numbers = new Numbers(run);
        TermSecrets x = new TermSecrets();
        Model model = new Model();
        // A run makes terms seldom or often, so that some stay small and others are soon full.
        int makingIn100 = 2 + numbers.below(40);
        int hearingIn100 = 5 + numbers.below(30);
        int unhearingIn100 = 5 + numbers.below(30);
        for (int call = 1; call <= CALLS; call++) {
            int a = numbers.argument(model.size());
            int b = numbers.argument(model.size());
            int dice = numbers.below(100);
            String where = "run " + run + ", call " + call + ": ";
            if (dice < makingIn100) {
                make(where, x, model, a, b, numbers.below(2) == 0);
            } else if (numbers.below(100) < hearingIn100) {
                due(where + "hear(" + a + ")", x.hear(a), model.hear(a));
            } else if (numbers.below(100) < unhearingIn100) {
                due(where + "unhear(" + a + ")", x.unhear(a), model.unhear(a));
            } else {
                ask(where, x, model, a, b, numbers.below(6));
            }
        }
    }

    private static void make(String where, TermSecrets x, Model model, int a, int b, boolean isPair) {
        if (isPair) {
            due(where + "pair(" + a + ", " + b + ")", x.pair(a, b), model.make('p', a, b));
        } else {
            due(where + "lock(" + a + ", " + b + ")", x.lock(a, b), model.make('l', a, b));
        }
    }

    private static void ask(String where, TermSecrets x, Model model, int a, int b, int which) {
        switch (which) {
            case 0 -> due(where + "knows(" + a + ")", x.knows(a), model.knows(a));
            case 1 -> due(where + "known()", x.known(), model.known(model.heard).size());
            case 2 -> due(where + "would(" + a + ", " + b + ")", x.would(a, b), model.would(a, b));
            case 3 -> due(where + "leak(" + a + ")", x.leak(a), model.leak(a));
            case 4 -> due(where + "atomsFor(" + a + ")", x.atomsFor(a), model.atomsFor(a));
            default -> due(where + "spare()", x.spare(), model.spare());
        }
    }

    private static void due(String call, int got, int want) {
        if (got != want) {
            wrong++;
            if (wrong <= MOST_TOLD) {
                System.out.println(call + " answered " + got + ", due is " + want);
            }
        }
    }

    // Numbers that look random and are the same in every run of the test.
    private static final class Numbers {
        private long state;

        Numbers(long seed) {
            state = seed * 0x9E3779B97F4A7C15L;
        }

        int below(int bound) {
            state = state * 6364136223846793005L + 1442695040888963407L;
            return (int) ((state >>> 33) % bound);
        }

        int argument(int held) {
            int dice = below(40);
            if (dice == 0) {
                return held + below(3);
            }
            if (dice == 1) {
                return -1 - below(40);
            }
            return below(held);
        }
    }

    private record Term(char kind, int first, int second) { }

    private static final class Model {
        private final List<Term> terms = new ArrayList<>();
        private final Set<Integer> heard = new HashSet<>();

        Model() {
            for (int atom = 0; atom < 8; atom++) {
                terms.add(new Term('a', atom, atom));
            }
        }

        int size() {
            return terms.size();
        }

        boolean lacks(int number) {
            return number < 0 || number >= terms.size();
        }

        int make(char kind, int first, int second) {
            if (lacks(first) || lacks(second)) {
                return -1;
            }
            Term term = new Term(kind, first, second);
            if (!terms.contains(term)) {
                if (terms.size() == 28) {
                    return -1;
                }
                terms.add(term);
            }
            return terms.indexOf(term);
        }

        Set<Integer> known(Set<Integer> from) {
            Set<Integer> known = new HashSet<>(from);
            boolean grew = true;
            while (grew) {
                int before = known.size();
                for (int number = 0; number < terms.size(); number++) {
                    addOneStep(known, number, terms.get(number));
                }
                grew = known.size() > before;
            }
            return known;
        }

        private static void addOneStep(Set<Integer> known, int number, Term term) {
            if (term.kind() == 'p' && known.contains(number)) {
                known.add(term.first());
                known.add(term.second());
            }
            if (term.kind() == 'l' && known.contains(number) && known.contains(term.first())) {
                known.add(term.second());
            }
            if (term.kind() != 'a' && known.contains(term.first()) && known.contains(term.second())) {
                known.add(number);
            }
        }

        private Set<Integer> knownWith(Set<Integer> extra) {
            Set<Integer> from = new HashSet<>(heard);
            from.addAll(extra);
            return known(from);
        }

        int hear(int term) {
            if (lacks(term)) {
                return -1;
            }
            heard.add(term);
            return known(heard).size();
        }

        int unhear(int term) {
            if (lacks(term)) {
                return -1;
            }
            heard.remove(term);
            return known(heard).size();
        }

        int knows(int term) {
            if (lacks(term)) {
                return -1;
            }
            return known(heard).contains(term) ? 1 : 0;
        }

        int would(int extra, int goal) {
            if (lacks(extra) || lacks(goal)) {
                return -1;
            }
            return knownWith(Set.of(extra)).contains(goal) ? 1 : 0;
        }

        int leak(int goal) {
            if (lacks(goal)) {
                return -1;
            }
            Set<Integer> known = known(heard);
            if (known.contains(goal)) {
                return -2;
            }
            int term = 0;
            while (known.contains(term) || !knownWith(Set.of(term)).contains(goal)) {
                term++;
            }
            return term;
        }

        int atomsFor(int goal) {
            if (lacks(goal)) {
                return -1;
            }
            int count = 0;
            while (!someAtomsGive(new HashSet<>(), 0, count, goal)) {
                count++;
            }
            return count;
        }

        private boolean someAtomsGive(Set<Integer> chosen, int next, int left, int goal) {
            if (left == 0) {
                return knownWith(chosen).contains(goal);
            }
            for (int atom = next; atom < 8; atom++) {
                chosen.add(atom);
                boolean given = someAtomsGive(chosen, atom + 1, left - 1, goal);
                chosen.remove(atom);
                if (given) {
                    return true;
                }
            }
            return false;
        }

        int spare() {
            Set<Integer> known = known(heard);
            int count = 0;
            for (int term : heard) {
                Set<Integer> rest = new HashSet<>(heard);
                rest.remove(term);
                if (known(rest).equals(known)) {
                    count++;
                }
            }
            return count;
        }
    }
}
