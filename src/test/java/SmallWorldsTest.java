import java.util.ArrayList;
import java.util.List;

// Every way to make up to three terms of two atoms, with every set of them heard. What is known is found here by the
// word "fewest" itself, as that which all sets that keep the rules have in common, and not by going step by step.
public final class SmallWorldsTest {
    private static final int MOST_TOLD = 20;
    private static final int MOST_MADE = 3;
    // The other six atoms are in no term and are never heard, so nothing depends on them.
    private static final int[] NUMBERS = {0, 7, 8, 9, 10};
    private static final int ATOMS = 2;

    private static int wrong = 0;

    public static void main(String[] args) {
        tryAll(new ArrayList<>());
        System.out.println(wrong == 0 ? "all answers are as due" : wrong + " answers are not as due");
        if (wrong != 0) {
            System.exit(1);
        }
    }

    // Places in NUMBERS stand for the terms that a term is made of.
    private record Made(boolean isPair, int first, int second) { }

    private static void tryAll(List<Made> world) {
        check(world);
        if (world.size() == MOST_MADE) {
            return;
        }
        int size = ATOMS + world.size();
        for (int choice = 0; choice < 2 * size * size; choice++) {
            Made next = new Made(choice % 2 == 0, choice / 2 / size, choice / 2 % size);
            if (!world.contains(next)) {
                List<Made> larger = new ArrayList<>(world);
                larger.add(next);
                tryAll(larger);
            }
        }
    }

    private static void check(List<Made> world) {
        int size = ATOMS + world.size();
        int[] known = new int[1 << size];
        for (int heard = 0; heard < 1 << size; heard++) {
            known[heard] = inAllThatKeepTheRules(world, heard);
        }
        for (int heard = 0; heard < 1 << size; heard++) {
            checkAnswers(world, heard, known);
        }
    }

    private static int inAllThatKeepTheRules(List<Made> world, int heard) {
        int common = -1;
        for (int set = 0; set < 1 << (ATOMS + world.size()); set++) {
            if ((set & heard) == heard && keepsTheRules(world, set)) {
                common &= set;
            }
        }
        return common;
    }

    private static boolean keepsTheRules(List<Made> world, int set) {
        for (int made = 0; made < world.size(); made++) {
            Made term = world.get(made);
            boolean whole = has(set, ATOMS + made);
            boolean first = has(set, term.first());
            boolean second = has(set, term.second());
            boolean takenApart = term.isPair()
                ? !whole || first && second
                : !(whole && first) || second;
            boolean putTogether = !(first && second) || whole;
            if (!takenApart || !putTogether) {
                return false;
            }
        }
        return true;
    }

    private static void checkAnswers(List<Made> world, int heard, int[] known) {
        int size = ATOMS + world.size();
        String where = world + " heard " + Integer.toBinaryString(heard) + ": ";
        TermSecrets x = new TermSecrets();
        for (int made = 0; made < world.size(); made++) {
            Made term = world.get(made);
            int first = NUMBERS[term.first()];
            int second = NUMBERS[term.second()];
            int got = term.isPair() ? x.pair(first, second) : x.lock(first, second);
            due(where, "make", made, got, NUMBERS[ATOMS + made]);
        }
        // All are heard first, so that what isn't heard in the end has been unheard.
        int now = 0;
        for (int place = 0; place < size; place++) {
            now |= 1 << place;
            due(where, "hear", place, x.hear(NUMBERS[place]), Integer.bitCount(known[now]));
        }
        for (int place = 0; place < size; place++) {
            if (!has(heard, place)) {
                now &= ~(1 << place);
                due(where, "unhear", place, x.unhear(NUMBERS[place]), Integer.bitCount(known[now]));
            }
        }
        due(where, "known", 0, x.known(), Integer.bitCount(known[heard]));
        due(where, "spare", 0, x.spare(), spare(heard, known));
        for (int goal = 0; goal < size; goal++) {
            due(where, "knows", goal, x.knows(NUMBERS[goal]), has(known[heard], goal) ? 1 : 0);
            due(where, "leak", goal, x.leak(NUMBERS[goal]), leak(heard, goal, known));
            due(where, "atomsFor", goal, x.atomsFor(NUMBERS[goal]), atomsFor(heard, goal, known));
            for (int extra = 0; extra < size; extra++) {
                int would = has(known[heard | 1 << extra], goal) ? 1 : 0;
                due(where, "would " + extra, goal, x.would(NUMBERS[extra], NUMBERS[goal]), would);
            }
        }
    }

    private static int spare(int heard, int[] known) {
        int count = 0;
        for (int place = 0; place < NUMBERS.length; place++) {
            if (has(heard, place) && known[heard & ~(1 << place)] == known[heard]) {
                count++;
            }
        }
        return count;
    }

    private static int leak(int heard, int goal, int[] known) {
        if (has(known[heard], goal)) {
            return -2;
        }
        int place = 0;
        while (has(known[heard], place) || !has(known[heard | 1 << place], goal)) {
            place++;
        }
        return NUMBERS[place];
    }

    private static int atomsFor(int heard, int goal, int[] known) {
        int least = ATOMS;
        for (int atoms = 0; atoms < 1 << ATOMS; atoms++) {
            if (has(known[heard | atoms], goal)) {
                least = Math.min(least, Integer.bitCount(atoms));
            }
        }
        return least;
    }

    private static boolean has(int set, int place) {
        return (set >> place & 1) == 1;
    }

    private static void due(String where, String call, int place, int got, int want) {
        if (got != want) {
            wrong++;
            if (wrong <= MOST_TOLD) {
                System.out.println(where + call + " at " + place + " answered " + got + ", due is " + want);
            }
        }
    }
}
