// Each promise of the document: ordinary inputs, the edges that it names, and wrong inputs.
public final class PromisesTest {
    private static final int[] NEVER_TERMS = {-1, -2, 28, 29, 31, 32, 33, 64, -28, -32,
        Integer.MAX_VALUE, Integer.MIN_VALUE};

    private static int wrong = 0;

    public static void main(String[] args) {
        newObject();
        objectsAreApart();
        pairNumbers();
        pairWhenFull();
        lockNumbers();
        lockWhenFull();
        hearing();
        hearingTakesApart();
        hearingPutsTogether();
        unhearing();
        knowing();
        knowingManySteps();
        counting();
        wouldBeKnown();
        leaking();
        atomsNeeded();
        sparing();
        refusingAtoms();
        refusingChangesNothing();
        refusingWhenFull();
        readmeExample();
        System.out.println(wrong == 0 ? "all answers are as due" : wrong + " answers are not as due");
        if (wrong != 0) {
            System.exit(1);
        }
    }

    private static void due(String call, int got, int want) {
        if (got != want) {
            wrong++;
            System.out.println(call + " answered " + got + ", due is " + want);
        }
    }

    // Pairs nested in each other: term 8 is (0, 1), and every later one is (the one before, an atom).
    private static TermSecrets nestedPairs() {
        TermSecrets x = new TermSecrets();
        due("nest: pair(0, 1)", x.pair(0, 1), 8);
        for (int term = 9; term < 28; term++) {
            due("nest: pair to be " + term, x.pair(term - 1, (term - 7) % 8), term);
        }
        return x;
    }

    private static void newObject() {
        TermSecrets x = new TermSecrets();
        due("1: known()", x.known(), 0);
        due("1: spare()", x.spare(), 0);
        for (int atom = 0; atom < 8; atom++) {
            due("1: knows(" + atom + ")", x.knows(atom), 0);
            due("1: atomsFor(" + atom + ")", x.atomsFor(atom), 1);
        }
        due("1: knows(8)", x.knows(8), -1);
        due("1: first made term", x.pair(7, 7), 8);
    }

    private static void objectsAreApart() {
        TermSecrets x = new TermSecrets();
        TermSecrets y = new TermSecrets();
        x.pair(0, 1);
        x.hear(8);
        due("1: knows(8) of another object", y.knows(8), -1);
        due("1: known() of another object", y.known(), 0);
        due("1: lock(2, 3) of another object", y.lock(2, 3), 8);
        due("1: known() beside another object", x.known(), 3);
    }

    private static void pairNumbers() {
        TermSecrets x = new TermSecrets();
        due("2: pair(0, 1)", x.pair(0, 1), 8);
        due("2: pair(1, 0)", x.pair(1, 0), 9);
        due("2: pair(0, 1) again", x.pair(0, 1), 8);
        due("2: pair(0, 0)", x.pair(0, 0), 10);
        due("2: pair(8, 9)", x.pair(8, 9), 11);
        due("2: pair(11, 11)", x.pair(11, 11), 12);
        due("2: pair(13, 0), the next number", x.pair(13, 0), -1);
        due("2: pair(0, 13), the next number", x.pair(0, 13), -1);
        due("2: lock(2, 3)", x.lock(2, 3), 13);
        due("2: pair(2, 3) is no locked term", x.pair(2, 3), 14);
        due("2: pair(1, 0) again", x.pair(1, 0), 9);
        due("2: a pair that is made is not heard", x.known(), 0);
        x.hear(4);
        x.hear(5);
        due("2: pair(4, 5)", x.pair(4, 5), 15);
        due("2: a pair of known terms is known", x.knows(15), 1);
        due("2: and counted", x.known(), 3);
        due("2: but not heard", x.spare(), 0);
    }

    private static void pairWhenFull() {
        TermSecrets x = nestedPairs();
        due("2: full, pair(0, 1)", x.pair(0, 1), 8);
        due("2: full, the last pair", x.pair(26, 4), 27);
        due("2: full, pair(1, 0)", x.pair(1, 0), -1);
        due("2: full, pair(27, 27)", x.pair(27, 27), -1);
        due("2: full, pair(28, 0)", x.pair(28, 0), -1);
        due("2: full, knows(28)", x.knows(28), -1);
        due("2: full, the last pair again", x.pair(26, 4), 27);
    }

    private static void lockNumbers() {
        TermSecrets x = new TermSecrets();
        due("3: lock(0, 1)", x.lock(0, 1), 8);
        due("3: lock(1, 0)", x.lock(1, 0), 9);
        due("3: lock(0, 1) again", x.lock(0, 1), 8);
        due("3: lock(3, 3)", x.lock(3, 3), 10);
        due("3: lock(8, 10)", x.lock(8, 10), 11);
        due("3: lock(12, 0), the next number", x.lock(12, 0), -1);
        due("3: lock(0, 12), the next number", x.lock(0, 12), -1);
        due("3: pair(2, 3)", x.pair(2, 3), 12);
        due("3: lock(2, 3) is no pair", x.lock(2, 3), 13);
        due("3: a locked term that is made is not heard", x.known(), 0);
        x.hear(4);
        due("3: lock(4, 5)", x.lock(4, 5), 14);
        due("3: a locked term of a known key alone is not known", x.knows(14), 0);
        due("3: lock(5, 4)", x.lock(5, 4), 15);
        due("3: a locked term of a known body alone is not known", x.knows(15), 0);
        due("3: lock(4, 4)", x.lock(4, 4), 16);
        due("3: a locked term of a known key and body is known", x.knows(16), 1);
    }

    private static void lockWhenFull() {
        TermSecrets x = new TermSecrets();
        for (int term = 8; term < 28; term++) {
            due("3: lock to be " + term, x.lock(term - 1, term - 2), term);
        }
        due("3: full, lock(7, 6)", x.lock(7, 6), 8);
        due("3: full, lock(26, 25)", x.lock(26, 25), 27);
        due("3: full, lock(6, 7)", x.lock(6, 7), -1);
        due("3: full, pair(7, 6)", x.pair(7, 6), -1);
        due("3: full, lock(28, 0)", x.lock(28, 0), -1);
        due("3: full, knows(28)", x.knows(28), -1);
        due("3: full, hear(27)", x.hear(27), 1);
        due("3: full, hear(7)", x.hear(7), 2);
        due("3: full, hear(6)", x.hear(6), 22);
    }

    private static void hearing() {
        TermSecrets x = new TermSecrets();
        due("4: hear(0)", x.hear(0), 1);
        due("4: hear(7)", x.hear(7), 2);
        due("4: hear(7) again", x.hear(7), 2);
        due("4: hear(8), not there", x.hear(8), -1);
        due("4: pair(1, 2)", x.pair(1, 2), 8);
        due("4: what was refused is not heard later", x.known(), 2);
        due("4: hear(8)", x.hear(8), 5);
        due("4: hear(1), known before", x.hear(1), 5);
        due("4: a known term is heard all the same", x.unhear(8), 3);
    }

    private static void hearingTakesApart() {
        TermSecrets x = new TermSecrets();
        x.lock(0, 1);
        x.lock(2, 8);
        x.pair(9, 3);
        due("4: hear(10), a pair", x.hear(10), 3);
        due("4: the first of the pair", x.knows(9), 1);
        due("4: the second of the pair", x.knows(3), 1);
        due("4: a body without its key", x.knows(8), 0);
        due("4: a key is never given by the locked term", x.knows(2), 0);
        due("4: hear(1), no key", x.hear(1), 4);
        due("4: a body does not give the key", x.knows(0), 0);
        due("4: hear(2), a key", x.hear(2), 6);
        due("4: the body", x.knows(8), 1);
        due("4: hear(0)", x.hear(0), 7);
    }

    private static void hearingPutsTogether() {
        TermSecrets x = new TermSecrets();
        x.pair(0, 1);
        x.lock(8, 2);
        x.lock(9, 3);
        x.pair(10, 9);
        due("4: hear(10)", x.hear(10), 1);
        due("4: hear(0)", x.hear(0), 2);
        due("4: hear(2)", x.hear(2), 3);
        due("4: one term does not give the pair", x.knows(8), 0);
        due("4: hear(1) makes a key of a key", x.hear(1), 8);
        due("4: unlocked with the key that was put together", x.knows(3), 1);
        due("4: pair put together last", x.knows(11), 1);
    }

    private static void unhearing() {
        TermSecrets x = new TermSecrets();
        x.pair(0, 1);
        x.lock(0, 2);
        due("5: unhear(0), never heard", x.unhear(0), 0);
        due("5: hear(8)", x.hear(8), 3);
        due("5: hear(9)", x.hear(9), 5);
        due("5: unhear(2), known and not heard", x.unhear(2), 5);
        due("5: still known", x.knows(2), 1);
        due("5: unhear(8)", x.unhear(8), 1);
        due("5: what came of it is gone", x.knows(2), 0);
        due("5: unhear(8) again", x.unhear(8), 1);
        due("5: hear(0)", x.hear(0), 3);
        due("5: hear(0) twice", x.hear(0), 3);
        due("5: unhear(0) once", x.unhear(0), 1);
        due("5: unhear(9)", x.unhear(9), 0);
        due("5: the terms stay", x.pair(0, 1), 8);
        due("5: unhear(10), not there", x.unhear(10), -1);
        due("5: hear(7)", x.hear(7), 1);
        due("5: unhear(7)", x.unhear(7), 0);
    }

    private static void knowing() {
        TermSecrets x = new TermSecrets();
        x.lock(0, 0);
        due("6: knows(8)", x.knows(8), 0);
        x.hear(8);
        due("6: knows(8) when heard", x.knows(8), 1);
        due("6: a key locked with itself", x.knows(0), 0);
        due("6: knows(9)", x.knows(9), -1);
        x.lock(1, 2);
        x.lock(2, 1);
        x.hear(9);
        x.hear(10);
        due("6: keys that lock each other, 1", x.knows(1), 0);
        due("6: keys that lock each other, 2", x.knows(2), 0);
        x.lock(8, 3);
        x.hear(11);
        due("6: a locked term as a key", x.knows(3), 1);
    }

    private static void knowingManySteps() {
        TermSecrets x = nestedPairs();
        due("6: hear the outermost pair", x.hear(27), 28);
        due("6: knows(0), in the innermost pair", x.knows(0), 1);
        due("6: unhear it", x.unhear(27), 0);
        for (int atom = 0; atom < 7; atom++) {
            x.hear(atom);
        }
        due("6: seven atoms", x.known(), 13);
        due("6: knows(13)", x.knows(13), 1);
        due("6: knows(14)", x.knows(14), 0);
        due("6: all eight atoms", x.hear(7), 28);

        // Locked twenty times with one key: each layer comes off only after the one around it.
        TermSecrets z = new TermSecrets();
        due("6: innermost layer", z.lock(0, 1), 8);
        for (int term = 9; term < 28; term++) {
            due("6: layer to be " + term, z.lock(0, term - 1), term);
        }
        due("6: hear the outermost layer", z.hear(27), 1);
        due("6: all layers would come off", z.would(0, 1), 1);
        due("6: leak through all layers", z.leak(1), 0);
        due("6: all layers come off", z.hear(0), 22);
        due("6: knows(1), twenty layers in", z.knows(1), 1);
        due("6: only the outermost layer is left", z.unhear(0), 1);

        // Each key lies in a later term than the one it opens, so that each step waits for the one before.
        TermSecrets y = new TermSecrets();
        for (int key = 0; key < 7; key++) {
            due("6: key to be " + (8 + key), y.lock(7 - key, 6 - key), 8 + key);
        }
        for (int key = 8; key < 15; key++) {
            y.hear(key);
        }
        due("6: keys locked in a row", y.known(), 7);
        due("6: a key in the middle opens the later ones", y.hear(3), 11);
        due("6: knows(4)", y.knows(4), 0);
        due("6: the first key opens all", y.hear(7), 15);
    }

    private static void counting() {
        TermSecrets x = new TermSecrets();
        for (int atom = 0; atom < 8; atom++) {
            x.hear(atom);
            due("7: known() after " + atom, x.known(), atom + 1);
        }
        x.pair(3, 4);
        due("7: known() after a pair", x.known(), 9);
        x.lock(8, 8);
        due("7: known() after a locked term", x.known(), 10);
        due("7: known() again", x.known(), 10);
        x.unhear(3);
        due("7: known() after unhear(3)", x.known(), 7);
    }

    private static void wouldBeKnown() {
        TermSecrets x = new TermSecrets();
        x.lock(0, 1);
        x.pair(1, 2);
        due("8: would(3, 3)", x.would(3, 3), 1);
        due("8: would(3, 4)", x.would(3, 4), 0);
        due("8: would(0, 1)", x.would(0, 1), 0);
        due("8: would(8, 1)", x.would(8, 1), 0);
        due("8: would(9, 2)", x.would(9, 2), 1);
        due("8: would(2, 9)", x.would(2, 9), 0);
        x.hear(8);
        due("8: would(0, 1) with 8", x.would(0, 1), 1);
        due("8: would(1, 0) with 8", x.would(1, 0), 0);
        due("8: would(0, 9) with 8", x.would(0, 9), 0);
        x.hear(2);
        due("8: would(0, 9) with 8 and 2", x.would(0, 9), 1);
        due("8: would(4, 8), known", x.would(4, 8), 1);
        due("8: would(8, 8), heard", x.would(8, 8), 1);
        due("8: would(8, 0), heard", x.would(8, 0), 0);
        due("8: nothing is heard by asking", x.known(), 2);
        due("8: what was heard stays heard", x.knows(8), 1);
        due("8: would(10, 0)", x.would(10, 0), -1);
        due("8: would(0, 10)", x.would(0, 10), -1);
        due("8: would(10, 8), known", x.would(10, 8), -1);
        due("8: would(10, 10)", x.would(10, 10), -1);
    }

    private static void leaking() {
        TermSecrets x = new TermSecrets();
        due("9: leak(5)", x.leak(5), 5);
        x.pair(0, 1);
        x.pair(8, 2);
        x.lock(3, 7);
        due("9: leak(8), nothing heard", x.leak(8), 8);
        due("9: leak(9), nothing heard", x.leak(9), 9);
        due("9: leak(0), also in a pair", x.leak(0), 0);
        x.hear(2);
        due("9: leak(9) with 2", x.leak(9), 8);
        due("9: leak(2), known", x.leak(2), -2);
        x.hear(10);
        due("9: leak(7), its key", x.leak(7), 3);
        due("9: leak(3)", x.leak(3), 3);
        due("9: leak(10), heard", x.leak(10), -2);
        x.hear(1);
        due("9: leak(9) with 1 and 2", x.leak(9), 0);
        due("9: nothing is heard by asking", x.known(), 3);
        x.hear(0);
        due("9: leak(9), put together", x.leak(9), -2);
        due("9: leak(11)", x.leak(11), -1);
        x.lock(9, 4);
        x.lock(4, 11);
        due("9: leak(12)", x.leak(12), 4);
        due("9: leak(11)", x.leak(11), 4);
    }

    private static void atomsNeeded() {
        TermSecrets x = nestedPairs();
        due("10: atomsFor(0)", x.atomsFor(0), 1);
        for (int term = 8; term < 14; term++) {
            due("10: atomsFor(" + term + ")", x.atomsFor(term), term - 6);
        }
        due("10: atomsFor(14)", x.atomsFor(14), 8);
        due("10: atomsFor(27)", x.atomsFor(27), 8);
        x.hear(10);
        due("10: atomsFor(10), known", x.atomsFor(10), 0);
        due("10: atomsFor(2), known", x.atomsFor(2), 0);
        due("10: atomsFor(14) with four atoms known", x.atomsFor(14), 4);
        x.hear(7);
        due("10: atomsFor(14) with a heard atom", x.atomsFor(14), 3);
        due("10: nothing is heard by asking", x.known(), 8);
        due("10: atomsFor(28)", x.atomsFor(28), -1);

        TermSecrets y = new TermSecrets();
        y.pair(0, 1);
        y.pair(8, 2);
        y.lock(7, 9);
        due("10: three atoms in a pair", y.atomsFor(9), 3);
        due("10: and the key", y.atomsFor(10), 4);
        y.hear(10);
        due("10: one key in place of three atoms", y.atomsFor(9), 1);
        y.pair(5, 6);
        y.lock(11, 7);
        due("10: hear(12)", y.hear(12), 2);
        due("10: a key that a pair opens is still one atom", y.atomsFor(9), 1);
        y.pair(9, 11);
        due("10: two atoms open one and then the other", y.atomsFor(13), 2);
    }

    private static void sparing() {
        TermSecrets x = new TermSecrets();
        x.pair(0, 1);
        due("11: hear(0)", x.hear(0), 1);
        due("11: spare(), one heard", x.spare(), 0);
        x.hear(8);
        due("11: spare(), 0 and the pair", x.spare(), 1);
        x.hear(1);
        due("11: spare(), each alone", x.spare(), 3);
        due("11: nothing is unheard by asking", x.known(), 3);
        x.unhear(8);
        due("11: spare(), 0 and 1", x.spare(), 0);
        x.hear(7);
        due("11: spare(), another atom", x.spare(), 0);
        x.lock(7, 0);
        due("11: spare(), a known term that is not heard", x.spare(), 0);
        x.hear(9);
        due("11: spare(), the locked term or its body", x.spare(), 2);

        TermSecrets y = new TermSecrets();
        y.hear(0);
        y.hear(1);
        due("11: spare(), two atoms", y.spare(), 0);

        TermSecrets z = nestedPairs();
        for (int term = 0; term < 28; term++) {
            z.hear(term);
        }
        due("11: spare(), all heard", z.spare(), 28);
        for (int term = 8; term < 28; term++) {
            z.unhear(term);
        }
        due("11: spare(), all atoms heard", z.spare(), 0);
    }

    private static void refusingAtoms() {
        TermSecrets x = new TermSecrets();
        due("terms: pair(7, 8)", x.pair(7, 8), -1);
        due("terms: pair(8, 8)", x.pair(8, 8), -1);
        due("terms: lock(8, 7)", x.lock(8, 7), -1);
        due("terms: lock(7, 8)", x.lock(7, 8), -1);
        due("terms: hear(8)", x.hear(8), -1);
        due("terms: unhear(8)", x.unhear(8), -1);
        due("terms: knows(8)", x.knows(8), -1);
        due("terms: would(8, 7)", x.would(8, 7), -1);
        due("terms: would(7, 8)", x.would(7, 8), -1);
        due("terms: leak(8)", x.leak(8), -1);
        due("terms: atomsFor(8)", x.atomsFor(8), -1);
        due("terms: the last atom is one", x.pair(7, 7), 8);
    }

    private static void refuseAll(TermSecrets x, String when, int number) {
        due(when + "pair(" + number + ", 0)", x.pair(number, 0), -1);
        due(when + "pair(0, " + number + ")", x.pair(0, number), -1);
        due(when + "lock(" + number + ", 0)", x.lock(number, 0), -1);
        due(when + "lock(0, " + number + ")", x.lock(0, number), -1);
        due(when + "hear(" + number + ")", x.hear(number), -1);
        due(when + "unhear(" + number + ")", x.unhear(number), -1);
        due(when + "knows(" + number + ")", x.knows(number), -1);
        due(when + "would(" + number + ", 0)", x.would(number, 0), -1);
        due(when + "would(0, " + number + ")", x.would(0, number), -1);
        due(when + "leak(" + number + ")", x.leak(number), -1);
        due(when + "atomsFor(" + number + ")", x.atomsFor(number), -1);
    }

    private static void refusingChangesNothing() {
        TermSecrets x = new TermSecrets();
        x.pair(0, 1);
        x.hear(0);
        x.hear(3);
        for (int number : NEVER_TERMS) {
            refuseAll(x, "refused: ", number);
            due("refused: known() after " + number, x.known(), 2);
            due("refused: spare() after " + number, x.spare(), 0);
        }
        due("refused: knows(0)", x.knows(0), 1);
        due("refused: knows(3)", x.knows(3), 1);
        due("refused: the next number", x.lock(0, 3), 9);
    }

    private static void refusingWhenFull() {
        TermSecrets x = nestedPairs();
        x.hear(9);
        for (int number : NEVER_TERMS) {
            refuseAll(x, "full: ", number);
        }
        due("full: known()", x.known(), 5);
        due("full: would(27, 7)", x.would(27, 7), 1);
        due("full: leak(27)", x.leak(27), 14);
        due("full: leak(10)", x.leak(10), 3);
        due("full: hear(27)", x.hear(27), 28);
        due("full: unhear(9)", x.unhear(9), 28);
        due("full: leak(27), known", x.leak(27), -2);
    }

    private static void readmeExample() {
        TermSecrets x = new TermSecrets();
        due("README: lock(0, 1)", x.lock(0, 1), 8);
        due("README: pair(8, 2)", x.pair(8, 2), 9);
        due("README: hear(9)", x.hear(9), 3);
        due("README: known()", x.known(), 3);
        due("README: knows(1)", x.knows(1), 0);
        due("README: would(0, 1)", x.would(0, 1), 1);
        due("README: leak(1)", x.leak(1), 0);
        due("README: leak(2)", x.leak(2), -2);
        due("README: atomsFor(1)", x.atomsFor(1), 1);
        due("README: spare()", x.spare(), 0);
        due("README: hear(8)", x.hear(8), 3);
        due("README: spare() with 8", x.spare(), 1);
        due("README: unhear(9)", x.unhear(9), 1);
        due("README: knows(10)", x.knows(10), -1);
    }
}
