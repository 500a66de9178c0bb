import java.util.ArrayList;
import java.util.LinkedHashMap;
import java.util.List;
import java.util.Map;
import java.util.function.Supplier;
import java.util.function.ToIntFunction;

// A test of its own for each sentence of the document that names a boundary case; a wrong answer is told with
// the sentence that it breaks. No object is used for more than 512 calls.
public final class BoundariesTest {
    private static final int MOST_TOLD = 40;

    private static String sentence = "";
    private static int wrong = 0;

    public static void main(String[] args) {
        termsAreNumberedFromZero();
        atMost28AreHeld();
        atomsAreThereFromTheBeginning();
        termsAreMadeOfLesserOnes();
        noPairTwice();
        noLockedTermTwice();
        noneIsHeardAtTheStart();
        theFewest();
        everyHeardTermIsKnown();
        knownPairGivesBoth();
        knownKeyGivesTheBody();
        bothGiveThePair();
        keyAndBodyGiveTheLockedTerm();
        noTermAnswersMinusOne();
        refusedChangesNothing();

        newObjectHoldsEightAtoms();
        newObjectHasHeardNothing();
        pairIsMadeIfNotThere();
        pairIfFull();
        lockIsMadeIfNotThere();
        lockIfFull();
        fullChangesNothing();
        termIsHeard();
        hearAnswersHowManyThen();
        termIsNotHeardAnyMore();
        unhearAnswersHowManyThen();
        knowsAnswers();
        knownCounts();
        wouldIfExtraWereHeardToo();
        wouldIfKnownAlready();
        leakIsTheLeast();
        leakIsNotKnown();
        leakAlone();
        leakIfGoalIsKnown();
        leakIsThereAlways();
        atomsForIsTheLeast();
        atomsForIfGoalIsKnown();
        allEightAtomsMakeEveryTermKnown();
        spareCountsHeardTerms();
        spareEachAlone();
        spareWithoutChange();
        askingChangesNothing();
        atMost512Calls();

        System.out.println(wrong == 0 ? "all answers are as due" : wrong + " answers are not as due");
        if (wrong != 0) {
            System.exit(1);
        }
    }

    private static void due(String call, Object got, Object want) {
        if (!got.equals(want)) {
            wrong++;
            if (wrong <= MOST_TOLD) {
                System.out.println("\"" + sentence + "\": " + call + " answered " + got + ", due is " + want);
            }
        }
    }

    // States to begin from.

    // Full with pairs nested in each other: 8 is (0, 1), and every later one is (the one before, an atom). Term 14
    // is the least one with all eight atoms in it, so that it gives all 28 terms.
    private static TermSecrets fullOfPairs() {
        TermSecrets x = new TermSecrets();
        x.pair(0, 1);
        for (int term = 9; term < 28; term++) {
            x.pair(term - 1, (term - 7) % 8);
        }
        return x;
    }

    // Full with layers around atom 1, all locked with atom 0: 8 is the innermost.
    private static TermSecrets fullOfLocked() {
        TermSecrets x = new TermSecrets();
        x.lock(0, 1);
        for (int term = 9; term < 28; term++) {
            x.lock(0, term - 1);
        }
        return x;
    }

    private static TermSecrets someTerms() {
        TermSecrets x = new TermSecrets();
        x.pair(0, 1);
        x.lock(8, 2);
        x.pair(9, 3);
        x.hear(10);
        x.hear(0);
        return x;
    }

    private static TermSecrets fullAndSomeHeard() {
        TermSecrets x = fullOfPairs();
        x.hear(9);
        x.hear(7);
        x.hear(0);
        return x;
    }

    private static TermSecrets fullAndAllKnown() {
        TermSecrets x = fullOfLocked();
        for (int atom = 0; atom < 8; atom++) {
            x.hear(atom);
        }
        x.hear(27);
        return x;
    }

    private record State(String name, int held, Supplier<TermSecrets> made) { }

    private static List<State> states() {
        return List.of(
            new State("new object", 8, TermSecrets::new),
            new State("some terms", 11, BoundariesTest::someTerms),
            new State("full, some heard", 28, BoundariesTest::fullAndSomeHeard),
            new State("full, all known", 28, BoundariesTest::fullAndAllKnown));
    }

    // What can be seen of a state: all that the questions answer, which terms are heard, and the next number.
    private static List<Integer> seen(int held, Supplier<TermSecrets> made) {
        List<Integer> answers = new ArrayList<>();
        TermSecrets x = made.get();
        answers.add(x.known());
        answers.add(x.spare());
        for (int term = 0; term <= held; term++) {
            answers.add(x.knows(term));
            answers.add(x.leak(term));
            answers.add(x.atomsFor(term));
            answers.add(x.would(held - 1, term));
        }
        for (int term = 0; term < held; term++) {
            answers.add(isHeard(made.get(), held, term) ? 1 : 0);
        }
        answers.add(x.pair(held - 1, held - 1));
        answers.add(x.lock(held - 1, held - 1));
        return answers;
    }

    // A term is heard if something stays known when all others are unheard.
    private static boolean isHeard(TermSecrets x, int held, int term) {
        for (int other = 0; other < held; other++) {
            if (other != term) {
                x.unhear(other);
            }
        }
        return x.known() > 0;
    }

    private static TermSecrets after(TermSecrets x, ToIntFunction<TermSecrets> call) {
        call.applyAsInt(x);
        return x;
    }

    // The number at every place where a method takes a term.
    private static Map<String, ToIntFunction<TermSecrets>> callsWith(int n) {
        Map<String, ToIntFunction<TermSecrets>> calls = new LinkedHashMap<>();
        calls.put("pair(" + n + ", 0)", x -> x.pair(n, 0));
        calls.put("pair(0, " + n + ")", x -> x.pair(0, n));
        calls.put("pair(" + n + ", " + n + ") of it twice", x -> x.pair(n, n));
        calls.put("lock(" + n + ", 0)", x -> x.lock(n, 0));
        calls.put("lock(0, " + n + ")", x -> x.lock(0, n));
        calls.put("lock(" + n + ", " + n + ") of it twice", x -> x.lock(n, n));
        calls.put("hear(" + n + ")", x -> x.hear(n));
        calls.put("unhear(" + n + ")", x -> x.unhear(n));
        calls.put("knows(" + n + ")", x -> x.knows(n));
        calls.put("would(" + n + ", 0)", x -> x.would(n, 0));
        calls.put("would(0, " + n + ")", x -> x.would(0, n));
        calls.put("would(" + n + ", " + n + ") of it twice", x -> x.would(n, n));
        calls.put("leak(" + n + ")", x -> x.leak(n));
        calls.put("atomsFor(" + n + ")", x -> x.atomsFor(n));
        return calls;
    }

    // Too small, too large, and those that a shift or a narrower type would turn into a term's number.
    private static List<Integer> noTerms(int held) {
        return List.of(-1, -2, -8, -28, -31, -32, -33, -64, Integer.MIN_VALUE, Integer.MIN_VALUE + 7,
            held, held + 1, 28, 29, 31, 32, 33, 39, 41, 59, 60, 63, 64, 128, 256, 263, 65536, 65543,
            Integer.MAX_VALUE - 1, Integer.MAX_VALUE);
    }

    // Terms.

    private static void termsAreNumberedFromZero() {
        sentence = "TERMS are numbered from 0";
        for (var call : callsWith(0).entrySet()) {
            due(call.getKey() + " is not refused", call.getValue().applyAsInt(new TermSecrets()) >= 0, true);
        }
        for (var call : callsWith(-1).entrySet()) {
            due(call.getKey(), call.getValue().applyAsInt(new TermSecrets()), -1);
        }
        TermSecrets x = new TermSecrets();
        for (int term = 8; term < 28; term++) {
            int made = term % 2 == 0 ? x.pair(term - 1, 0) : x.lock(term - 1, 0);
            due("the term to be " + term + ", without a gap", made, term);
        }
    }

    private static void atMost28AreHeld() {
        sentence = "at most 28 are held";
        TermSecrets x = new TermSecrets();
        for (int term = 8; term < 27; term++) {
            x.pair(term - 1, term - 1);
        }
        due("27 are held, knows(26)", x.knows(26), 0);
        due("27 are held, knows(27)", x.knows(27), -1);
        due("27 are held, pair(26, 26)", x.pair(26, 26), 27);
        due("28 are held, knows(27)", x.knows(27), 0);
        due("28 are held, knows(28)", x.knows(28), -1);
        due("28 are held, pair(27, 27)", x.pair(27, 27), -1);
        due("28 are held, lock(27, 27)", x.lock(27, 27), -1);
        due("28 are held still, knows(28)", x.knows(28), -1);
        for (var call : callsWith(27).entrySet()) {
            boolean makes = call.getKey().startsWith("pair") || call.getKey().startsWith("lock");
            int answer = call.getValue().applyAsInt(fullOfPairs());
            due("28 are held, is refused: " + call.getKey(), answer == -1, makes);
        }
    }

    private static void atomsAreThereFromTheBeginning() {
        sentence = "Terms 0 to 7 are there from the beginning: the ATOMS";
        for (int atom = 0; atom < 8; atom++) {
            due("hear(" + atom + ") gives nothing else", new TermSecrets().hear(atom), 1);
            due("atomsFor(" + atom + ")", new TermSecrets().atomsFor(atom), 1);
            for (int other = 0; other < 8; other++) {
                due("pair(" + atom + ", " + other + ")", new TermSecrets().pair(atom, other), 8);
                due("lock(" + atom + ", " + other + ")", new TermSecrets().lock(atom, other), 8);
            }
        }
        due("knows(8)", new TermSecrets().knows(8), -1);
    }

    private static void termsAreMadeOfLesserOnes() {
        sentence = "A term is made of terms with lesser numbers";
        TermSecrets x = new TermSecrets();
        for (int next = 8; next < 28; next++) {
            due("pair(" + next + ", 0) as term " + next, x.pair(next, 0), -1);
            due("pair(0, " + next + ") as term " + next, x.pair(0, next), -1);
            due("lock(" + next + ", 0) as term " + next, x.lock(next, 0), -1);
            due("lock(0, " + next + ") as term " + next, x.lock(0, next), -1);
            due("pair(" + (next - 1) + ", " + (next - 1) + ")", x.pair(next - 1, next - 1), next);
        }
    }

    private static void noPairTwice() {
        sentence = "no pair of the same two terms in the same order [..] is there twice";
        TermSecrets x = new TermSecrets();
        due("pair(0, 7)", x.pair(0, 7), 8);
        due("pair(0, 7) again", x.pair(0, 7), 8);
        due("pair(7, 0), the other order", x.pair(7, 0), 9);
        due("pair(7, 0) again", x.pair(7, 0), 9);
        due("lock(0, 7), no pair", x.lock(0, 7), 10);
        due("pair(0, 0), one term twice", x.pair(0, 0), 11);
        due("pair(0, 0) again", x.pair(0, 0), 11);
        due("pair(0, 6), the first term alone is the same", x.pair(0, 6), 12);
        due("pair(1, 7), the second term alone is the same", x.pair(1, 7), 13);
        due("pair(13, 12)", x.pair(13, 12), 14);
        due("pair(13, 12) again", x.pair(13, 12), 14);
        due("pair(0, 7) at last", x.pair(0, 7), 8);
        due("the next number", x.pair(5, 5), 15);
    }

    private static void noLockedTermTwice() {
        sentence = "no locked term of the same key and body, is there twice";
        TermSecrets x = new TermSecrets();
        due("lock(0, 7)", x.lock(0, 7), 8);
        due("lock(0, 7) again", x.lock(0, 7), 8);
        due("lock(7, 0), key and body changed about", x.lock(7, 0), 9);
        due("lock(7, 0) again", x.lock(7, 0), 9);
        due("pair(0, 7), not locked", x.pair(0, 7), 10);
        due("lock(0, 0), key and body the same", x.lock(0, 0), 11);
        due("lock(0, 0) again", x.lock(0, 0), 11);
        due("lock(0, 6), the key alone is the same", x.lock(0, 6), 12);
        due("lock(1, 7), the body alone is the same", x.lock(1, 7), 13);
        due("lock(13, 12)", x.lock(13, 12), 14);
        due("lock(13, 12) again", x.lock(13, 12), 14);
        due("lock(0, 7) at last", x.lock(0, 7), 8);
        due("the next number", x.lock(5, 5), 15);
    }

    private static void noneIsHeardAtTheStart() {
        sentence = "Some terms are HEARD (none at the start)";
        for (int atom = 0; atom < 8; atom++) {
            due("unhear(" + atom + ") first of all", new TermSecrets().unhear(atom), 0);
            due("hear(" + atom + ") first of all", new TermSecrets().hear(atom), 1);
        }
        for (int term = 0; term < 28; term++) {
            due("full of pairs, is heard: " + term, isHeard(fullOfPairs(), 28, term), false);
            due("full of locked terms, is heard: " + term, isHeard(fullOfLocked(), 28, term), false);
        }
    }

    private static void theFewest() {
        sentence = "THE KNOWN terms are the fewest such that";
        due("full of pairs, nothing heard, known()", fullOfPairs().known(), 0);
        due("full of locked terms, nothing heard, known()", fullOfLocked().known(), 0);
        TermSecrets x = new TermSecrets();
        x.lock(0, 0);
        x.lock(1, 2);
        x.lock(2, 1);
        x.lock(8, 3);
        due("a key locked with itself", x.hear(8), 1);
        due("keys that lock each other, one", x.hear(9), 2);
        due("keys that lock each other, both", x.hear(10), 3);
        due("a locked term as the key", x.hear(11), 5);
        due("and nothing else, knows(0)", x.knows(0), 0);
    }

    private static void everyHeardTermIsKnown() {
        sentence = "every heard term is known";
        for (int term = 0; term < 28; term++) {
            TermSecrets x = fullOfPairs();
            x.hear(term);
            due("full of pairs, heard and known: " + term, x.knows(term), 1);
            TermSecrets y = fullOfLocked();
            y.hear(term);
            due("full of locked terms, heard and known: " + term, y.knows(term), 1);
        }
    }

    private static void knownPairGivesBoth() {
        sentence = "if a pair is known, both of its terms are";
        TermSecrets x = new TermSecrets();
        x.pair(7, 0);
        due("hear(8)", x.hear(8), 3);
        due("the first", x.knows(7), 1);
        due("the second", x.knows(0), 1);
        TermSecrets y = new TermSecrets();
        y.pair(3, 3);
        due("a pair of one term twice", y.hear(8), 2);
        due("its term", y.knows(3), 1);
        TermSecrets z = new TermSecrets();
        z.pair(0, 1);
        z.lock(2, 8);
        z.hear(9);
        due("a pair that is unlocked, not heard", z.hear(2), 5);
        for (int atom = 0; atom < 8; atom++) {
            TermSecrets deep = fullOfPairs();
            deep.hear(27);
            due("twenty pairs deep, knows(" + atom + ")", deep.knows(atom), 1);
        }
    }

    private static void knownKeyGivesTheBody() {
        sentence = "if a locked term and its key are known, its body is";
        TermSecrets x = new TermSecrets();
        x.lock(7, 0);
        due("the locked term without its key", x.hear(8), 1);
        due("with its key", x.hear(7), 3);
        due("the body", x.knows(0), 1);
        TermSecrets y = new TermSecrets();
        y.lock(7, 0);
        due("the key without the locked term", y.hear(7), 1);
        TermSecrets z = new TermSecrets();
        z.lock(7, 0);
        z.hear(8);
        due("the body does not give the key", z.hear(0), 2);
        TermSecrets layers = fullOfLocked();
        layers.hear(27);
        due("twenty layers deep", layers.hear(0), 22);
        TermSecrets row = new TermSecrets();
        for (int key = 7; key > 0; key--) {
            row.hear(row.lock(key, key - 1));
        }
        due("keys locked in a row, nothing to begin with", row.known(), 7);
        due("keys locked in a row, from the first", row.hear(7), 15);
    }

    private static void bothGiveThePair() {
        sentence = "if both terms of a pair (held as a term) are known, the pair is";
        TermSecrets x = new TermSecrets();
        x.hear(7);
        due("the pair is not held", x.hear(0), 2);
        due("pair(7, 0)", x.pair(7, 0), 8);
        due("the pair is held", x.known(), 3);
        due("the pair is known", x.knows(8), 1);
        due("the first alone", x.unhear(0), 1);
        x.unhear(7);
        due("the second alone", x.hear(0), 1);
        TermSecrets y = new TermSecrets();
        y.pair(7, 7);
        due("one term twice", y.hear(7), 2);
        TermSecrets deep = fullOfPairs();
        for (int atom = 1; atom < 8; atom++) {
            due("twenty pairs deep without atom 0", deep.hear(atom), atom);
        }
        due("twenty pairs deep", deep.hear(0), 28);
    }

    private static void keyAndBodyGiveTheLockedTerm() {
        sentence = "if the key and the body of a locked term (held as a term) are known, the locked term is";
        TermSecrets x = new TermSecrets();
        x.hear(7);
        due("the locked term is not held", x.hear(0), 2);
        due("lock(7, 0)", x.lock(7, 0), 8);
        due("the locked term is held", x.known(), 3);
        due("the locked term is known", x.knows(8), 1);
        due("the key alone", x.unhear(0), 1);
        x.unhear(7);
        due("the body alone", x.hear(0), 1);
        TermSecrets y = new TermSecrets();
        y.lock(7, 7);
        due("key and body the same", y.hear(7), 2);
        TermSecrets layers = fullOfLocked();
        due("twenty layers without the key", layers.hear(1), 1);
        due("twenty layers", layers.hear(0), 22);
    }

    private static void noTermAnswersMinusOne() {
        sentence = "A number that is not that of a term is refused: the call answers -1";
        for (State state : states()) {
            for (int number : noTerms(state.held())) {
                for (var call : callsWith(number).entrySet()) {
                    int answer = call.getValue().applyAsInt(state.made().get());
                    due(state.name() + ", " + call.getKey(), answer, -1);
                }
            }
        }
    }

    private static void refusedChangesNothing() {
        sentence = "A number that is not that of a term is refused: the call [..] changes nothing";
        for (State state : states()) {
            List<Integer> before = seen(state.held(), state.made());
            for (int number : noTerms(state.held())) {
                for (var call : callsWith(number).entrySet()) {
                    Supplier<TermSecrets> refused = () -> after(state.made().get(), call.getValue());
                    due(state.name() + ", what is seen after " + call.getKey(), seen(state.held(), refused), before);
                }
            }
        }
        TermSecrets x = new TermSecrets();
        x.hear(8);
        x.pair(0, 1);
        due("hear(8) while it is not there, then pair(0, 1)", x.knows(8), 0);
    }

    // Promises 1 to 3.

    private static void newObjectHoldsEightAtoms() {
        sentence = "1: The eight atoms are held";
        TermSecrets x = new TermSecrets();
        due("knows(0)", x.knows(0), 0);
        due("knows(7)", x.knows(7), 0);
        due("knows(8)", x.knows(8), -1);
        due("the ninth term", x.pair(0, 0), 8);
        due("the ninth term of a later object", new TermSecrets().lock(0, 0), 8);
    }

    private static void newObjectHasHeardNothing() {
        sentence = "1: nothing is heard";
        TermSecrets other = new TermSecrets();
        other.hear(3);
        TermSecrets x = new TermSecrets();
        due("known()", x.known(), 0);
        due("spare()", x.spare(), 0);
        for (int atom = 0; atom < 8; atom++) {
            due("knows(" + atom + ")", x.knows(atom), 0);
            due("is heard: " + atom, isHeard(new TermSecrets(), 8, atom), false);
        }
        due("known() of the other object", other.known(), 1);
    }

    private static void pairIsMadeIfNotThere() {
        sentence = "2: The number of the pair of the two terms, which is made if it is not there yet";
        TermSecrets x = new TermSecrets();
        x.hear(0);
        due("pair(0, 7), not there yet", x.pair(0, 7), 8);
        due("it is not heard", isHeard(after(new TermSecrets(), y -> y.pair(0, 7)), 9, 8), false);
        due("it is not known", x.known(), 1);
        due("pair(0, 7), there", x.pair(0, 7), 8);
        due("no second one is made", x.knows(9), -1);
        due("pair(8, 8)", x.pair(8, 8), 9);
        due("pair(10, 0), not that of a term", x.pair(10, 0), -1);
        due("pair(0, 10), not that of a term", x.pair(0, 10), -1);
    }

    private static void pairIfFull() {
        sentence = "2: -1 also if it is not there and 28 terms are held";
        TermSecrets x = fullOfPairs();
        due("pair(1, 0)", x.pair(1, 0), -1);
        due("pair(27, 27)", x.pair(27, 27), -1);
        due("pair(0, 0)", x.pair(0, 0), -1);
        due("pair(0, 1), there", x.pair(0, 1), 8);
        due("pair(26, 4), there", x.pair(26, 4), 27);
        due("pair(28, 0), not that of a term", x.pair(28, 0), -1);
        due("pair(0, 1) beside lock(0, 1)", fullOfLocked().pair(0, 1), -1);
        TermSecrets y = new TermSecrets();
        for (int term = 8; term < 27; term++) {
            y.lock(0, term - 1);
        }
        due("27 terms are held", y.pair(0, 7), 27);
        due("28 terms are held", y.pair(0, 26), -1);
        due("28 terms are held, there", y.pair(0, 7), 27);
    }

    private static void lockIsMadeIfNotThere() {
        sentence = "3: The number of the body locked with the key, which is made if it is not there yet";
        TermSecrets x = new TermSecrets();
        x.hear(0);
        due("lock(0, 7), not there yet", x.lock(0, 7), 8);
        due("it is not heard", isHeard(after(new TermSecrets(), y -> y.lock(0, 7)), 9, 8), false);
        due("it is not known", x.known(), 1);
        due("lock(0, 7), there", x.lock(0, 7), 8);
        due("no second one is made", x.knows(9), -1);
        due("hear(8), the first is the key", x.hear(8), 3);
        due("lock(8, 8)", x.lock(8, 8), 9);
        due("lock(10, 0), not that of a term", x.lock(10, 0), -1);
        due("lock(0, 10), not that of a term", x.lock(0, 10), -1);
    }

    private static void lockIfFull() {
        sentence = "3: -1 also if it is not there and 28 terms are held";
        TermSecrets x = fullOfLocked();
        due("lock(1, 0)", x.lock(1, 0), -1);
        due("lock(27, 27)", x.lock(27, 27), -1);
        due("lock(0, 0)", x.lock(0, 0), -1);
        due("lock(0, 1), there", x.lock(0, 1), 8);
        due("lock(0, 26), there", x.lock(0, 26), 27);
        due("lock(28, 0), not that of a term", x.lock(28, 0), -1);
        due("lock(0, 1) beside pair(0, 1)", fullOfPairs().lock(0, 1), -1);
        TermSecrets y = new TermSecrets();
        for (int term = 8; term < 27; term++) {
            y.pair(0, term - 1);
        }
        due("27 terms are held", y.lock(0, 7), 27);
        due("28 terms are held", y.lock(0, 26), -1);
        due("28 terms are held, there", y.lock(0, 7), 27);
    }

    private static void fullChangesNothing() {
        sentence = "2 and 3: -1 also if it is not there and 28 terms are held (and nothing is made then)";
        List<Integer> before = seen(28, BoundariesTest::fullAndSomeHeard);
        for (int term = 0; term < 28; term++) {
            int n = term;
            Supplier<TermSecrets> noPair = () -> after(fullAndSomeHeard(), x -> x.pair(n, 27));
            Supplier<TermSecrets> noLock = () -> after(fullAndSomeHeard(), x -> x.lock(n, 27));
            due("what is seen after pair(" + n + ", 27)", seen(28, noPair), before);
            due("what is seen after lock(" + n + ", 27)", seen(28, noLock), before);
        }
        TermSecrets x = fullOfPairs();
        due("pair(1, 0)", x.pair(1, 0), -1);
        due("pair(1, 0) again", x.pair(1, 0), -1);
        for (int term = 9; term < 28; term++) {
            due("the pair that is " + term, x.pair(term - 1, (term - 7) % 8), term);
        }
    }

    // Promises 4 to 7.

    private static void termIsHeard() {
        sentence = "4: The term is heard";
        for (int term = 0; term < 28; term++) {
            int n = term;
            due("is heard: " + n, isHeard(after(fullOfPairs(), x -> x.hear(n)), 28, n), true);
            due("known before, is heard: " + n, isHeard(after(fullAndAllKnown(), x -> x.hear(n)), 28, n), true);
        }
        TermSecrets x = new TermSecrets();
        x.hear(0);
        x.hear(0);
        due("heard twice", isHeard(x, 8, 0), true);
    }

    private static void hearAnswersHowManyThen() {
        sentence = "4: Answers how many terms are known then, or -1";
        TermSecrets x = new TermSecrets();
        due("hear(8), not that of a term", x.hear(8), -1);
        for (int atom = 0; atom < 8; atom++) {
            due("hear(" + atom + ")", x.hear(atom), atom + 1);
            due("hear(" + atom + ") again", x.hear(atom), atom + 1);
        }
        due("full, hear(27)", fullOfPairs().hear(27), 28);
        due("full, hear(8)", fullOfPairs().hear(8), 3);
        due("full, hear(28)", fullOfPairs().hear(28), -1);
        due("full and all known, hear(7)", fullAndAllKnown().hear(7), 28);
        due("full and all known, hear(28)", fullAndAllKnown().hear(28), -1);
    }

    private static void termIsNotHeardAnyMore() {
        sentence = "5: The term is not heard any more";
        for (int term = 0; term < 28; term++) {
            TermSecrets x = fullOfPairs();
            x.hear(term);
            x.hear(term);
            x.unhear(term);
            due("heard twice, unheard once, is heard: " + term, isHeard(x, 28, term), false);
            TermSecrets y = fullOfPairs();
            y.unhear(term);
            due("never heard, is heard: " + term, isHeard(y, 28, term), false);
        }
        TermSecrets x = someTerms();
        x.unhear(0);
        due("another one stays heard", isHeard(x, 11, 10), true);
        TermSecrets y = new TermSecrets();
        y.hear(0);
        y.unhear(0);
        due("heard anew", y.hear(0), 1);
    }

    private static void unhearAnswersHowManyThen() {
        sentence = "5: Answers how many terms are known then, or -1";
        TermSecrets x = new TermSecrets();
        due("unhear(8), not that of a term", x.unhear(8), -1);
        due("unhear(0), nothing heard", x.unhear(0), 0);
        x.hear(1);
        due("unhear(0), not heard", x.unhear(0), 1);
        due("unhear(1), the last one", x.unhear(1), 0);
        due("unhear(1) again", x.unhear(1), 0);
        TermSecrets y = fullOfPairs();
        y.hear(27);
        due("known and not heard", y.unhear(0), 28);
        y.hear(0);
        due("known all the same", y.unhear(0), 28);
        due("full, unhear(28)", y.unhear(28), -1);
        due("full, unhear(27)", y.unhear(27), 0);
    }

    private static void knowsAnswers() {
        sentence = "6: 1 if the term is known, else 0; -1";
        TermSecrets x = fullOfPairs();
        due("nothing heard, knows(0)", x.knows(0), 0);
        due("nothing heard, knows(27)", x.knows(27), 0);
        due("knows(28)", x.knows(28), -1);
        due("knows(-1)", x.knows(-1), -1);
        x.hear(8);
        due("knows(0), not heard", x.knows(0), 1);
        due("knows(8), heard", x.knows(8), 1);
        due("knows(9)", x.knows(9), 0);
        x.hear(27);
        due("knows(27), heard", x.knows(27), 1);
        due("all known, knows(28)", x.knows(28), -1);
        due("all known, knows(-1)", x.knows(-1), -1);
        due("all known, knows(32)", x.knows(32), -1);
    }

    private static void knownCounts() {
        sentence = "7: How many terms are known";
        due("new object", new TermSecrets().known(), 0);
        due("full, nothing heard", fullOfPairs().known(), 0);
        TermSecrets x = fullOfPairs();
        x.hear(0);
        due("one", x.known(), 1);
        x.hear(26);
        due("the last but one is heard, and the last is put together", x.known(), 28);
        due("all", fullAndAllKnown().known(), 28);
        TermSecrets y = fullOfLocked();
        y.hear(27);
        due("the last one alone", y.known(), 1);
        y.unhear(27);
        due("none any more", y.known(), 0);
    }

    // Promises 8 to 11.

    private static void wouldIfExtraWereHeardToo() {
        sentence = "8: 1 if the term goal would be known if the term extra were heard too, else 0; -1";
        for (int term = 0; term < 28; term++) {
            due("would(" + term + ", " + term + "), itself", fullOfPairs().would(term, term), 1);
            due("would(27, " + term + ")", fullOfPairs().would(27, term), 1);
            due("would(" + term + ", 27)", fullOfPairs().would(term, 27), term < 14 ? 0 : 1);
        }
        TermSecrets x = new TermSecrets();
        x.lock(7, 0);
        due("would(7, 0), the locked term is not heard", x.would(7, 0), 0);
        due("would(8, 0), the key is not known", x.would(8, 0), 0);
        x.hear(8);
        due("would(7, 0), heard too", x.would(7, 0), 1);
        due("would(0, 7), the other way", x.would(0, 7), 0);
        due("would(9, 0)", x.would(9, 0), -1);
        due("would(0, 9)", x.would(0, 9), -1);
        due("would(9, 9)", x.would(9, 9), -1);
    }

    private static void wouldIfKnownAlready() {
        sentence = "8: 1 if the term goal would be known if the term extra were heard too (known already)";
        TermSecrets x = new TermSecrets();
        x.pair(0, 1);
        x.hear(8);
        due("would(7, 0), goal is known", x.would(7, 0), 1);
        due("would(0, 7), extra is known", x.would(0, 7), 0);
        due("would(8, 7), extra is heard", x.would(8, 7), 0);
        due("would(8, 8), both are heard", x.would(8, 8), 1);
        due("would(0, 1), both are known", x.would(0, 1), 1);
        due("would(9, 0), goal is known and extra no term", x.would(9, 0), -1);
        due("would(-1, 0), goal is known and extra no term", x.would(-1, 0), -1);
        due("would(0, 9), extra is known and goal no term", x.would(0, 9), -1);
    }

    private static void leakIsTheLeast() {
        sentence = "9: The least term that [..] would make the term goal known";
        TermSecrets x = new TermSecrets();
        x.lock(6, 0);
        x.lock(5, 0);
        x.lock(7, 6);
        x.hear(8);
        due("leak(0), itself before its keys", x.leak(0), 0);
        x.pair(0, 7);
        x.hear(9);
        x.hear(7);
        due("leak(11), 0 before the keys 5 and 6", x.leak(11), 0);
        TermSecrets y = new TermSecrets();
        y.lock(6, 7);
        y.lock(5, 7);
        y.hear(8);
        due("leak(7), one key", y.leak(7), 6);
        y.hear(9);
        due("leak(7), the lesser of two keys", y.leak(7), 5);
        y.pair(5, 6);
        due("leak(10), made of atoms", y.leak(10), 10);
        y.lock(10, 4);
        y.hear(11);
        due("leak(4)", y.leak(4), 4);
        y.pair(4, 3);
        y.hear(3);
        due("leak(12), a pair of an atom that is to be had", y.leak(12), 4);
    }

    private static void leakIsNotKnown() {
        sentence = "9: The least term that is not known and that [..]";
        TermSecrets x = new TermSecrets();
        x.pair(0, 1);
        x.hear(8);
        due("leak(2), lesser ones are known", x.leak(2), 2);
        due("leak(7), lesser ones are known", x.leak(7), 7);
        x.pair(0, 7);
        due("leak(9), its first is known", x.leak(9), 7);
        TermSecrets y = fullOfLocked();
        y.hear(0);
        due("leak(27), the key is known", y.leak(27), 1);
        TermSecrets z = fullOfLocked();
        z.hear(27);
        due("leak(26), the key is not known", z.leak(26), 0);
    }

    private static void leakAlone() {
        sentence = "9: [..] if it alone were heard too";
        TermSecrets x = new TermSecrets();
        x.pair(0, 1);
        x.pair(8, 2);
        due("leak(8), 0 alone is not enough", x.leak(8), 8);
        due("leak(9), 2 alone is not enough", x.leak(9), 9);
        x.lock(3, 4);
        x.lock(2, 10);
        x.hear(11);
        due("leak(4), neither 2 nor 3 is enough", x.leak(4), 4);
        due("leak(10), 2 is enough", x.leak(10), 2);
        x.hear(2);
        due("leak(9), with 2 the lesser pair is enough", x.leak(9), 8);
        due("leak(4), 3 is enough", x.leak(4), 3);
    }

    private static void leakIfGoalIsKnown() {
        sentence = "9: -2 if goal is known; -1 if refused";
        TermSecrets x = fullOfPairs();
        x.hear(8);
        due("leak(8), heard", x.leak(8), -2);
        due("leak(0), known", x.leak(0), -2);
        due("leak(28)", x.leak(28), -1);
        due("leak(-1)", x.leak(-1), -1);
        due("leak(-2)", x.leak(-2), -1);
        x.hear(2);
        due("leak(9), put together", x.leak(9), -2);
        for (int term = 0; term < 28; term++) {
            due("all known, leak(" + term + ")", after(fullOfPairs(), y -> y.hear(27)).leak(term), -2);
        }
        due("all known, leak(28)", fullAndAllKnown().leak(28), -1);
        x.unhear(8);
        due("leak(8), unheard", x.leak(8), 8);
    }

    private static void leakIsThereAlways() {
        sentence = "9: There is one if goal is not known: goal itself is one";
        for (int term = 0; term < 28; term++) {
            due("full of pairs, leak(" + term + ")", fullOfPairs().leak(term), term < 14 ? term : 14);
            due("full of locked terms, leak(" + term + ")", fullOfLocked().leak(term), term);
        }
        for (int atom = 0; atom < 8; atom++) {
            due("new object, leak(" + atom + ")", new TermSecrets().leak(atom), atom);
        }
    }

    private static void atomsForIsTheLeast() {
        sentence = "10: The least number of atoms that, if they were heard too, would make the term goal known";
        TermSecrets x = new TermSecrets();
        x.pair(0, 1);
        x.pair(8, 2);
        x.lock(7, 9);
        due("atomsFor(9), three atoms", x.atomsFor(9), 3);
        due("atomsFor(10), and the key", x.atomsFor(10), 4);
        x.hear(10);
        due("atomsFor(9), its key alone", x.atomsFor(9), 1);
        x.hear(1);
        due("atomsFor(8), with 1 known", x.atomsFor(8), 1);
        x.pair(3, 3);
        due("atomsFor(11), one atom twice", x.atomsFor(11), 1);
        x.pair(6, 5);
        due("atomsFor(12), two atoms", x.atomsFor(12), 2);
        due("atomsFor(13), not that of a term", x.atomsFor(13), -1);
        x.lock(12, 4);
        x.hear(13);
        due("atomsFor(4), itself and not the two of its key", x.atomsFor(4), 1);
    }

    private static void atomsForIfGoalIsKnown() {
        sentence = "10: (0 if it is); -1";
        TermSecrets x = new TermSecrets();
        x.pair(0, 1);
        due("atomsFor(0)", x.atomsFor(0), 1);
        x.hear(8);
        due("atomsFor(8), heard", x.atomsFor(8), 0);
        due("atomsFor(0), known", x.atomsFor(0), 0);
        due("atomsFor(2)", x.atomsFor(2), 1);
        x.unhear(8);
        due("atomsFor(8), unheard", x.atomsFor(8), 2);
        due("atomsFor(9)", x.atomsFor(9), -1);
        due("atomsFor(-1)", x.atomsFor(-1), -1);
        for (int term = 0; term < 28; term++) {
            due("all known, atomsFor(" + term + ")", fullAndAllKnown().atomsFor(term), 0);
        }
        due("all known, atomsFor(28)", fullAndAllKnown().atomsFor(28), -1);
    }

    private static void allEightAtomsMakeEveryTermKnown() {
        sentence = "10: All eight atoms make every term known";
        for (int term = 8; term < 28; term++) {
            int atoms = term < 14 ? term - 6 : 8;
            due("full of pairs, atomsFor(" + term + ")", fullOfPairs().atomsFor(term), atoms);
            due("full of locked terms, atomsFor(" + term + ")", fullOfLocked().atomsFor(term), 2);
        }
        TermSecrets x = fullOfPairs();
        for (int atom = 0; atom < 7; atom++) {
            x.hear(atom);
            due("atomsFor(27), after hear(" + atom + ")", x.atomsFor(27), 7 - atom);
        }
        due("all eight atoms", x.hear(7), 28);
        due("atomsFor(27), all eight atoms", x.atomsFor(27), 0);
    }

    private static void spareCountsHeardTerms() {
        sentence = "11: How many heard terms [..] could be unheard";
        due("new object", new TermSecrets().spare(), 0);
        due("full, nothing heard", fullOfPairs().spare(), 0);
        TermSecrets x = fullOfPairs();
        x.hear(27);
        due("one heard, 28 known", x.spare(), 0);
        x.hear(0);
        due("two heard, one of them spare", x.spare(), 1);
        x.hear(0);
        due("heard twice, counted once", x.spare(), 1);
        for (int term = 0; term < 28; term++) {
            x.hear(term);
        }
        due("all 28 heard", x.spare(), 28);
    }

    private static void spareEachAlone() {
        sentence = "11: [..] each alone [..]";
        TermSecrets x = new TermSecrets();
        x.pair(0, 1);
        x.hear(0);
        x.hear(1);
        due("both terms of a pair", x.spare(), 0);
        x.hear(8);
        due("and the pair: each alone, though not all together", x.spare(), 3);
        x.unhear(0);
        due("the pair and one of its terms", x.spare(), 1);
        TermSecrets y = new TermSecrets();
        y.pair(0, 1);
        y.pair(1, 0);
        y.hear(8);
        y.hear(9);
        due("two pairs of the same terms: each alone, though not both", y.spare(), 2);
    }

    private static void spareWithoutChange() {
        sentence = "11: [..] without changing which terms are known";
        TermSecrets x = new TermSecrets();
        for (int atom = 0; atom < 8; atom++) {
            x.hear(atom);
        }
        due("eight atoms, none spare", x.spare(), 0);
        TermSecrets y = new TermSecrets();
        y.lock(0, 1);
        y.hear(8);
        due("a locked term alone", y.spare(), 0);
        y.hear(1);
        due("a locked term and its body, without the key", y.spare(), 0);
        y.hear(0);
        due("a locked term, its body and its key: the key is not spare", y.spare(), 2);
        y.unhear(8);
        due("key and body, the locked term is known and not heard", y.spare(), 0);
    }

    private static void askingChangesNothing() {
        sentence = "8 to 11: if [..] were heard too, could be unheard (nothing is)";
        for (State state : states()) {
            List<Integer> before = seen(state.held(), state.made());
            Supplier<TermSecrets> asked = () -> {
                TermSecrets x = state.made().get();
                for (int term = 0; term < state.held(); term++) {
                    x.knows(term);
                    x.would(term, state.held() - 1);
                    x.leak(term);
                    x.atomsFor(term);
                }
                x.known();
                x.spare();
                return x;
            };
            due(state.name() + ", what is seen after asking", seen(state.held(), asked), before);
        }
    }

    private static void atMost512Calls() {
        sentence = "An object is used for at most 512 calls after it has been made";
        TermSecrets x = fullOfPairs();
        for (int call = 21; call < 508; call += 2) {
            due("call " + call + ", hear(27)", x.hear(27), 28);
            due("call " + (call + 1) + ", unhear(27)", x.unhear(27), 0);
        }
        due("call 509, hear(8)", x.hear(8), 3);
        due("call 510, leak(9)", x.leak(9), 2);
        due("call 511, atomsFor(27)", x.atomsFor(27), 6);
        due("call 512, spare()", x.spare(), 0);
        TermSecrets y = new TermSecrets();
        for (int call = 1; call < 512; call++) {
            due("call " + call + ", known()", y.known(), 0);
        }
        due("call 512, pair(0, 0)", y.pair(0, 0), 8);
    }
}
