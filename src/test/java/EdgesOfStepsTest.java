/** The document's second part (STEPS, SPENT, PULSES, RISE, CALM, STEADY heats), at its edges, a sentence each. */
public final class EdgesOfStepsTest extends ByHand {
    public static void main(String[] args) {
        allAtOnce();
        finsAndSources();
        fortySteps();
        lineAtTheBound();
        heatAtTheBound();
        withoutSign();
        largeIsNoneByTheLine();
        largeIsTheFirstCell();
        toldAsLargeAsItLikes();
        toldAndGoneByThen();
        nothingOfASpentStep();
        spentWithinForty();
        pulsesDue();
        pulsesTogether();
        pulsesTwelve();
        pulseNumbers();
        pulseBehindTheStep();
        hush();
        thenEdges();
        riseIsGreater();
        riseRightAhead();
        riseWithin();
        riseSpent();
        calmOrLess();
        calmForty();
        calmSpent();
        noSteadyHeats();
        oneEndOrOneFin();
        steadyOfFewer();
        fineAndHoldsDontMatter();
        hottest();
        lay();
        isSteady();
        endOf("EdgesOfStepsTest");
    }

    /** A STEP, of all CELLS at once, by T as they are. */
    private static void allAtOnce() {
        BarSteps x = bar(0, 2, 1, 8, 0, 2, 1, 0, 0, 2, 1, 0);
        x.step(1);
        dueParts(19, "the first gives 2 times 8 by 4", t(x, 0), 4, 1);
        dueParts(19, "the second has that", t(x, 1), 4, 1);
        dueParts(19, "the third has nothing yet", t(x, 2), 0, 1);
        // FINE 1: two that swap
        x = bar(0, 1, 1, 3, 0, 1, 1, 7);
        x.rule(0, 1);
        x.step(1);
        dueParts(19, "swapped", t(x, 0), 7, 1);
        dueParts(19, "swapped", t(x, 1), 3, 1);
        // HOLDS 8 times FINE 20 is 160
        x = bar(2, 1, 4, 0);
        x.rule(0, 20);
        x.set(0, 3, 1);
        x.step(1);
        dueParts(19, "by the greatest HOLDS and FINE", t(x, 0), 1, 160);
    }

    /** FIN times (AIR less T), and SOURCE. */
    private static void finsAndSources() {
        BarSteps x = bar(3, 1, 1, 999);
        x.step(1);
        dueParts(19, "999 to air of 0", t(x, 0), 2997, 4);
        x = bar(3, 1, 1, 0);
        x.rule(1, 999);
        x.step(1);
        dueParts(19, "0 to air of 999", t(x, 0), 999, 4);
        x = bar(1, 1, 1, 0);
        x.rule(1, 999);
        due(19, "no FIN, no air", x.step(1), 1);
        dueParts(19, "no FIN, no air", t(x, 0), 0, 1);
        x.set(0, 3, -9);
        x.step(1);
        dueParts(19, "the least SOURCE", t(x, 0), -9, 4);
        x.heat(0, 0);
        x.set(0, 3, 9);
        x.step(1);
        dueParts(19, "the greatest SOURCE", t(x, 0), 9, 4);
    }

    /** n STEPS (1 .. 40), one by one: how many were done. */
    private static void fortySteps() {
        BarSteps x = bar(0, 1, 1, 0);
        x.set(0, 3, 4);
        due(19, "one", x.step(1), 1);
        dueParts(19, "1 a step", t(x, 0), 1, 1);
        due(19, "forty", x.step(40), 40);
        dueParts(19, "1 a step", t(x, 0), 41, 1);
        due(19, "none", x.step(0), BAD);
        due(19, "forty-one", x.step(41), BAD);
        dueParts(19, "as it was", t(x, 0), 41, 1);
    }

    /** SPENT, if behind it THE LINE is above 1000000000000: a line of just that is not. */
    private static void lineAtTheBound() {
        BarSteps x = bar(3, 1, 1, 0);
        x.rule(0, 10);
        x.rule(1, 1);
        due(21, "the thirteenth is spent", x.spent(0), 13);
        due(20, "the twelfth has a line of just that", x.then(12, 0, 1), BOUND);
        due(20, "the thirteenth", x.then(13, 0, 1), NO);
        due(19, "twelve are done", x.step(13), 12);
        due(12, "the line", x.line(), BOUND);
        due(19, "none more", x.step(1), 0);
        due(12, "the line stays", x.line(), BOUND);
    }

    /** Or some T times THE LINE is above that: one of just that is not. */
    private static void heatAtTheBound() {
        dueParts(19, "just that", t(reaching(BOUND), 0), BOUND, 1);
        due(19, "just that: its pulse came", reaching(BOUND).count(1), 0);
        due(19, "one more is spent: its pulse waits", reaching(BOUND + 1).count(1), 1);
        due(21, "it is spent", reaching(BOUND + 1).spent(0), 1);
        due(21, "by cell 0", reaching(BOUND + 1).spent(1), 0);
    }

    /** Above that without sign. */
    private static void withoutSign() {
        dueParts(19, "just that below 0", t(reaching(-BOUND), 0), -BOUND, 1);
        due(19, "just that below 0: its pulse came", reaching(-BOUND).count(1), 0);
        due(19, "one less is spent: its pulse waits", reaching(-BOUND - 1).count(1), 1);
        due(21, "it is spent", reaching(-BOUND - 1).spent(0), 1);
        due(21, "by cell 0", reaching(-BOUND - 1).spent(1), 0);
        // T is between 0 and 1 over a line of 10^12: one less it is between -1 and 0, two less below -1
        BarSteps x = atTheBound();
        x.pulse(0, 1, -1);
        x.pulse(0, 2, -1);
        due(21, "the second is spent", x.spent(0) * 10 + x.spent(1), 20);
        due(19, "the first is done", x.step(2), 1);
        dueParts(19, "between -1 and 0", t(x, 0), ABOVE_AT_THE_BOUND - BOUND, BOUND);
    }

    /** LARGE: NONE, if THE LINE is above it, also where a T times it is, too. */
    private static void largeIsNoneByTheLine() {
        BarSteps x = bar(3, 1, 1, 0);
        x.rule(0, 10);
        x.rule(1, 1);
        due(21, "by the line alone", x.spent(1), NONE);
        x.step(12);
        x.pulse(0, 1, 99);
        due(21, "by both", x.spent(0), 1);
        due(21, "by both", x.spent(1), NONE);
        x.set(0, 2, 0);
        due(21, "by T alone", x.spent(0), 1);
        due(21, "by T alone", x.spent(1), 0);
    }

    /** Else the first CELL whose T times THE LINE is. */
    private static void largeIsTheFirstCell() {
        // FINE 1, LEADS 1: the second becomes the first and the third less itself, the others the second.
        BarSteps x = atTheBound();
        x.cell(0, 1, 1, 0);
        x.cell(0, 1, 1, 0);
        x.pulse(2, 1, 5);
        due(21, "the third alone", x.spent(0) * 10 + x.spent(1), 12);
        x.pulse(1, 1, 5);
        due(21, "the second and the third", x.spent(0) * 10 + x.spent(1), 11);
        x.pulse(0, 1, -5);
        due(21, "all of them", x.spent(0) * 10 + x.spent(1), 10);
        x.hush(1);
        x.hush(2);
        due(21, "the first alone", x.spent(0) * 10 + x.spent(1), 10);
        x.hush(0);
        due(21, "none in the first", x.spent(0) > 1 || x.spent(0) == NONE ? 1 : 0, 1);
    }

    /** T that was told may be as large as it likes till then. */
    private static void toldAsLargeAsItLikes() {
        BarSteps x = atTheBound();
        due(2, "a cell comes", x.cell(0, 1, 1, 999), 1);
        dueParts(11, "its T", t(x, 1), 999, 1);
        due(12, "over a line of 10^12", x.line(), BOUND);
        due(14, "the flow is exact", x.flow(0, 0), ABOVE_AT_THE_BOUND - 999 * BOUND);
        due(14, "the flow is exact", x.flow(0, 1), BOUND);
        due(18, "it is the greatest", x.most(0), 1);
        due(23, "it is calm by 999", x.calm(999), 0);
        due(31, "it does not rest", x.isSteady(), 0);
        dueParts(20, "behind no step", then(x, 0, 1), 999, 1);
        due(34, "a film of now", x.film(0, 1, 1), 1);
        due(33, "it tells", x.tells(0, 1, 0), NONE);
        due(38, "it is kept", x.image() * 10 + x.back(), 22);
        dueParts(39, "as it was", t(x, 1), 999, 1);
        due(35, "no lot, no step", x.drawn(1, 0), 999);
        due(21, "the first step is spent", x.spent(0), 1);
        due(21, "by the first cell, as they swap", x.spent(1), 0);
        due(19, "it is not done", x.step(1), 0);
        due(5, "told to the other", x.heat(0, 999), 1);
        due(12, "the line is gone", x.line(), 1);
        due(19, "steps are done again", x.step(40), 40);
    }

    /** Till then: a step behind which it is small again is not spent. */
    private static void toldAndGoneByThen() {
        BarSteps x = atTheBound();
        x.cell(0, 1, 1, 999);
        x.end(0, 0);
        x.end(1, 999);
        for (int i = 0; i < 10; i++) {
            x.pulse(0, 1, -99);
        }
        x.pulse(0, 1, -9);
        // 0 and 999 less T0, less 999; T0 and 999 less 999
        due(19, "it is done", x.step(1), 1);
        dueParts(19, "the first", t(x, 0), -ABOVE_AT_THE_BOUND, BOUND);
        dueParts(19, "the second", t(x, 1), ABOVE_AT_THE_BOUND, BOUND);
        due(41, "all pulses came", x.count(1), 0);
    }

    /** Then nothing of it is done. */
    private static void nothingOfASpentStep() {
        BarSteps x = atTheBound();
        x.cell(0, 1, 1, 0);
        x.pulse(0, 1, 7);
        x.pulse(1, 5, 8);
        x.pulse(1, 1, 9);
        due(19, "it is spent", x.step(1), 0);
        due(24, "no pulse came", x.count(1), 3);
        due(25, "none is due sooner", x.pulseOf(0, 1) * 100 + x.pulseOf(1, 1) * 10 + x.pulseOf(2, 1), 151);
        dueParts(19, "T stays", t(x, 0), ABOVE_AT_THE_BOUND, BOUND);
        dueParts(19, "T stays", t(x, 1), 0, 1);
        // The first of forty are done, up to it
        x = atTheBound();
        x.pulse(0, 20, 1);
        due(19, "nineteen are done", x.step(40), 19);
        due(25, "it is due with the next", x.pulseOf(0, 1), 1);
        due(19, "none more", x.step(40), 0);
        due(25, "it is still due with the next", x.pulseOf(0, 1), 1);
    }

    /** Of 40 STEPS in thought the first that is SPENT; NONE (both): none is. */
    private static void spentWithinForty() {
        // By a half a step: 2^39 is below the bound, 2^40 above it
        BarSteps x = bar(3, 1, 2, 0);
        x.rule(0, 1);
        x.rule(1, 1);
        due(21, "the fortieth", x.spent(0) * 10 + x.spent(1), 399);
        x.heat(0, 1);
        due(21, "none at rest", x.spent(0) * 10 + x.spent(1), -11);
        // One that waits a step ahead of that: the forty-first would be spent
        x.pulse(0, 1, -1);
        due(21, "none of forty", x.spent(0) * 10 + x.spent(1), -11);
        due(20, "the fortieth has a line of 2^39", x.then(40, 0, 1), 549755813888L);
        x.step(1);
        due(21, "the fortieth from there", x.spent(0), 40);
        x = new BarSteps();
        due(21, "without cells none is", x.spent(0) * 10 + x.spent(1), -11);
        x.end(0, 999);
        x.rule(0, 20);
        due(21, "without cells none is", x.spent(0) * 10 + x.spent(1), -11);
        // The first: told too large for a line that is there
        x = atTheBound();
        x.heat(0, 0);
        due(21, "none at rest", x.spent(0), NONE);
        x = atTheBound();
        x.pulse(0, 1, 1);
        due(21, "the first", x.spent(0) * 10 + x.spent(1), 10);
    }

    /** DUE 1 .. 20 STEPS from when it is told: those that are DUE 0 then come. */
    private static void pulsesDue() {
        for (int due = 1; due <= 20; due++) {
            BarSteps x = bar(0, 1, 1, 0);
            x.pulse(0, due, 99);
            if (due > 1) {
                due(19, "the steps ahead", x.step(due - 1), due - 1);
            }
            due(24, "it waits behind " + (due - 1), x.count(1), 1);
            due(25, "it is due with the next", x.pulseOf(0, 1), 1);
            dueParts(24, "T ahead", t(x, 0), 0, 1);
            x.step(1);
            due(24, "it came behind " + due, x.count(1), 0);
            dueParts(24, "T is HEAT more", t(x, 0), 99, 1);
            x.step(1);
            dueParts(24, "but once", t(x, 0), 99, 1);
        }
    }

    /** Several of one CELL, of one STEP; HEAT at its least, at its greatest, and 0. */
    private static void pulsesTogether() {
        BarSteps x = bar(0, 1, 1, 0);
        for (int i = 0; i < 12; i++) {
            x.pulse(0, 1, 99);
        }
        x.step(1);
        dueParts(24, "twelve times 99", t(x, 0), 1188, 1);
        x.heat(0, 0);
        for (int i = 0; i < 12; i++) {
            x.pulse(0, 1, -99);
        }
        x.step(1);
        dueParts(24, "twelve times -99", t(x, 0), -1188, 1);
        x = alike(2, 0, 1, 1, 0);
        x.pulse(0, 1, 0);
        x.pulse(1, 1, 0);
        x.step(1);
        due(24, "a HEAT of 0 comes, too", x.count(1), 0);
        dueParts(24, "and changes nothing", t(x, 0), 0, 1);
        x.pulse(0, 1, 5);
        x.pulse(1, 2, 7);
        x.pulse(0, 1, -3);
        x.step(1);
        dueParts(24, "those that are due", t(x, 0), 2, 1);
        dueParts(24, "not the other", t(x, 1), 0, 1);
        due(25, "it is the first now", x.pulseOf(0, 2), 7);
    }

    /** PULSES: 12 at most. */
    private static void pulsesTwelve() {
        BarSteps x = alike(2, 0, 1, 1, 0);
        for (int i = 1; i <= 12; i++) {
            due(24, "how many there are", x.pulse(i % 2, i, i), i);
        }
        due(24, "a thirteenth", x.pulse(0, 1, 1), FULL);
        due(41, "twelve are there", x.count(1), 12);
        x.step(1);
        due(24, "one came: there is room", x.pulse(0, 1, 1), 12);
        due(24, "a thirteenth", x.pulse(0, 1, 1), FULL);
        due(26, "hush", x.hush(0), 7);
        due(24, "there is room", x.pulse(1, 1, 1), 6);
    }

    /** Numbered from 0 as they came (those behind one that is none any more are one less). */
    private static void pulseNumbers() {
        BarSteps x = alike(3, 0, 1, 1, 0);
        for (int i = 0; i < 6; i++) {
            x.pulse(i % 3, i == 2 ? 1 : 5 + i, 10 * i);
        }
        for (int i = 0; i < 6; i++) {
            due(25, "the i-th", x.pulseOf(i, 2), 10 * i);
        }
        due(25, "behind the last", x.pulseOf(6, 2), NO_SUCH);
        x.step(1);
        int[] left = {0, 10, 30, 40, 50};
        for (int i = 0; i < 5; i++) {
            due(25, "the i-th, one came", x.pulseOf(i, 2), left[i]);
            due(25, "it is due one sooner", x.pulseOf(i, 1), 4 + left[i] / 10);
        }
        due(25, "behind the last", x.pulseOf(5, 2), NO_SUCH);
        x.hush(0);
        int[] rest = {10, 40, 50};
        for (int i = 0; i < 3; i++) {
            due(25, "the i-th, two were hushed", x.pulseOf(i, 2), rest[i]);
            due(25, "its cell", x.pulseOf(i, 0), i == 2 ? 2 : 1);
        }
        due(25, "behind the last", x.pulseOf(3, 0), NO_SUCH);
    }

    /** Then PULSES: the STEP is reckoned by T as they are, without what comes with it. */
    private static void pulseBehindTheStep() {
        BarSteps x = alike(2, 0, 1, 1, 0);
        x.pulse(0, 1, 8);
        x.step(1);
        dueParts(24, "it came", t(x, 0), 8, 1);
        dueParts(24, "nothing of it flowed yet", t(x, 1), 0, 1);
        x.step(1);
        dueParts(24, "now it does", t(x, 1), 2, 1);
    }

    /** PULSES of a CELL are none any more: how many there were. */
    private static void hush() {
        BarSteps x = alike(8, 0, 1, 1, 0);
        due(26, "there were none", x.hush(7), 0);
        for (int i = 0; i < 12; i++) {
            x.pulse(7, 1, 9);
        }
        due(26, "there were none of it", x.hush(6), 0);
        due(26, "there were twelve", x.hush(7), 12);
        due(26, "there are none", x.hush(7), 0);
        due(41, "none is left", x.count(1) + x.count(3), 0);
        x.step(1);
        dueParts(26, "none comes", t(x, 7), 0, 1);
        due(24, "there is room", x.pulse(0, 1, 1), 1);
    }

    /** then: n STEPS (0 .. 40). */
    private static void thenEdges() {
        BarSteps x = bar(0, 1, 1, 7);
        x.set(0, 3, 1);
        x.pulse(0, 20, 50);
        dueParts(20, "behind none", then(x, 0, 0), 7, 1);
        dueParts(20, "behind one", then(x, 1, 0), 29, 4);
        dueParts(20, "behind nineteen", then(x, 19, 0), 47, 4);
        dueParts(20, "behind twenty", then(x, 20, 0), 62, 1);
        dueParts(20, "behind forty", then(x, 40, 0), 67, 1);
        due(20, "behind forty-one", x.then(41, 0, 0), NO);
        due(20, "behind less than none", x.then(-1, 0, 0), NO);
        dueParts(20, "nothing is kept", t(x, 0), 7, 1);
    }

    /** RISE: the first of them behind which the greatest T is greater: as great is not. */
    private static void riseIsGreater() {
        BarSteps x = alike(2, 0, 1, 1, 5);
        due(22, "as great", x.rises(40), NONE);
        // FINE 1: they swap, the greatest stays
        x.heat(0, 9);
        x.rule(0, 1);
        due(22, "they swap", x.rises(40), NONE);
        x.pulse(1, 1, -1);
        due(22, "9 becomes 8", x.rises(1), NONE);
        x.hush(1);
        x.pulse(1, 1, 1);
        due(22, "9 becomes 10", x.rises(1), 1);
        // It rises by 9^11 in 10^12, and is just below 1
        x = bar(3, 1, 1, 0);
        x.rule(0, 10);
        x.rule(1, 1);
        x.step(11);
        due(22, "by what is least", x.rises(1), 1);
        // The greatest told T over the finest line: it falls
        x = atTheBound();
        x.cell(0, 1, 1, 999);
        due(22, "spent: NONE", x.rises(1), NONE);
    }

    /** Greater than it was right ahead of it, be it less than at first; from 1. */
    private static void riseRightAhead() {
        BarSteps x = bar(3, 1, 1, 100);
        x.rule(0, 2);
        x.pulse(0, 3, 20);
        // 100, 50, 25, 32 1/2
        due(22, "from 25 to 32 1/2", x.rises(40), 3);
        x.hush(0);
        x.pulse(0, 3, 13);
        due(22, "from 25 to 25 1/2", x.rises(40), 3);
        x.hush(0);
        x.pulse(0, 3, 12);
        due(22, "from 25 to 24 1/2", x.rises(40), NONE);
        // Another cell has it than had it
        x = bar(0, 1, 1, 5, 0, 1, 1, 5, 0, 1, 1, 4);
        x.pulse(2, 1, 9);
        due(22, "in another cell", x.rises(40), 1);
        // All below 0: from -1/4 to -9/4, then less so
        x = bar(0, 1, 1, 0);
        x.pulse(0, 1, -10);
        x.pulse(0, 2, 4);
        due(22, "below 0", x.rises(40), 2);
    }

    /** Within n STEPS (1 .. 40). */
    private static void riseWithin() {
        BarSteps x = bar(0, 1, 1, 5);
        x.pulse(0, 20, 1);
        due(22, "within 19", x.rises(19), NONE);
        due(22, "within 20", x.rises(20), 20);
        due(22, "within 40", x.rises(40), 20);
        due(22, "within 0", x.rises(0), BAD);
        due(22, "within 41", x.rises(41), BAD);
        // T becomes -T: it falls to 0 and below, and rises with the second
        x = bar(0, 1, 1, 3);
        x.rule(0, 1);
        x.end(0, 0);
        x.end(1, 0);
        due(22, "within 1", x.rises(1), NONE);
        due(22, "within 2", x.rises(2), 2);
        // Seven that hand on a half to either side, found by search: what the right end gives comes late
        x = bar(0, 1, 1, 0, 0, 1, 1, 256, 0, 1, 1, 768, 0, 1, 1, 0, 0, 1, 1, 896, 0, 1, 1, 0, 0, 1, 1, 896);
        x.rule(0, 2);
        x.end(0, 0);
        x.end(1, 128);
        due(22, "within 39", x.rises(39), NONE);
        due(22, "within 40", x.rises(40), 40);
        x.step(1);
        due(22, "a step later", x.rises(39), 39);
    }

    /** NONE also where one is SPENT ahead of that, or by just that. */
    private static void riseSpent() {
        BarSteps x = atTheBound();
        x.pulse(0, 2, 1);
        due(22, "it would rise, but it is spent", x.rises(40), NONE);
        due(22, "within 1", x.rises(1), NONE);
        x.hush(0);
        x.pulse(0, 2, -1);
        x.pulse(0, 3, 1);
        due(22, "it falls, then rises", x.rises(40), 3);
        x.pulse(0, 2, -1);
        due(22, "it is spent ahead of that", x.rises(40), NONE);
    }

    /** CALM: the greatest T less the least one is v or less. */
    private static void calmOrLess() {
        BarSteps x = bar(0, 1, 1, 999, 0, 1, 1, 0);
        due(23, "just so, now", x.calm(999), 0);
        due(23, "one less", x.calm(998), 1);
        due(23, "behind one: 499 1/2", x.calm(500), 1);
        due(23, "not yet behind one", x.calm(499), 2);
        due(23, "of one cell", bar(0, 1, 1, 999).calm(0), 0);
        due(23, "all alike", alike(8, 0, 1, 1, 999).calm(0), 0);
        // 1 less than a fraction above 0 over 10^12; 1 and that
        x = atTheBound();
        x.cell(0, 1, 1, 1);
        due(23, "not calm by 0, ever", x.calm(0), NONE);
        due(23, "calm by 1", x.calm(1), 0);
        x.heat(1, 2);
        due(23, "by 1 not now, and the next is spent", x.calm(1), NONE);
        due(23, "by 2", x.calm(2), 0);
        // Below 0: -5 and 5
        x = alike(2, 0, 1, 1, 0);
        x.rule(0, 1);
        x.pulse(0, 1, 5);
        x.pulse(1, 1, -5);
        x.step(1);
        due(23, "10 apart", x.calm(9) * 100 + x.calm(10), -100);
    }

    /** Behind how many STEPS (0 .. 40). */
    private static void calmForty() {
        // FINE 1: they swap, till pulses even them out
        BarSteps x = bar(0, 1, 1, 9, 0, 1, 1, 0);
        x.rule(0, 1);
        due(23, "never", x.calm(8), NONE);
        x.pulse(1, 19, -9);
        due(23, "behind 19", x.calm(8), 19);
        // 768 at the end of seven that hand on a half to either side
        x = bar(0, 1, 1, 768, 0, 1, 1, 0, 0, 1, 1, 0, 0, 1, 1, 0, 0, 1, 1, 0, 0, 1, 1, 0, 0, 1, 1, 0);
        x.rule(0, 2);
        due(23, "behind 40", x.calm(7), 40);
        due(23, "not within 40", x.calm(6), NONE);
        x.step(1);
        due(23, "behind 39 more", x.calm(7), 39);
    }

    /** NONE likewise: where one is SPENT ahead of that, or by just that. */
    private static void calmSpent() {
        BarSteps x = atTheBound();
        x.cell(0, 1, 1, 0);
        x.pulse(0, 3, 1);
        due(23, "it swaps, and is spent ahead of that", x.calm(0), NONE);
        due(23, "it is calm at once", x.calm(1), 0);
        // T0 and 3 swap and become 3 less 1, T0 and 1: calm by 1, but above 1, and so spent
        x = atTheBound();
        x.cell(0, 1, 1, 3);
        x.pulse(0, 1, -1);
        x.pulse(1, 1, 1);
        due(21, "it is spent", x.spent(0), 1);
        due(23, "it would be calm then", x.calm(1), NONE);
        x.hush(1);
        x.pulse(0, 1, -1);
        due(23, "by 1 and T0 it is", x.calm(1), 1);
    }

    /** There are none, if there are no CELLS, or both ends are SHUT and no CELL has a FIN. */
    private static void noSteadyHeats() {
        BarSteps x = new BarSteps();
        x.end(0, 5);
        x.end(1, 5);
        x.rule(1, 5);
        due(29, "no cells", x.hottest(), NONE);
        due(30, "no cells", x.lay(), STATE);
        due(27, "no cells", x.steady(0, 0), NO);
        due(28, "no cells", x.steadyFlow(-1, 0), NO);
        x = bar(0, 1, 1, 5, 1, 1, 1, 5, 2, 1, 1, 5, 4, 1, 1, 5, 5, 1, 1, 5);
        x.rule(1, 5);
        due(31, "they rest", x.isSteady(), 1);
        due(29, "shut, no fin", x.hottest(), NONE);
        due(30, "shut, no fin", x.lay(), STATE);
        for (int i = 0; i < 5; i++) {
            due(27, "shut, no fin", x.steady(i, i % 2), NO);
        }
        for (int i = -1; i < 5; i++) {
            due(28, "shut, no fin", x.steadyFlow(i, 0), NO);
        }
        x.sheet(0, SHORTS, 0);
        due(32, "shut, no fin", x.buried(0, 0), STATE);
        x = bar(0, 1, 1, 5);
        x.sheet(0, SHORTS, 0);
        due(27, "one cell alone", x.steady(0, 0), NO);
        due(29, "one cell alone", x.hottest(), NONE);
        due(30, "one cell alone", x.lay(), STATE);
        due(32, "one cell alone", x.buried(0, 1), STATE);
    }

    /** One end HELD, be it at 0, or one FIN, wherever it is, is enough. */
    private static void oneEndOrOneFin() {
        for (int side = 0; side < 2; side++) {
            for (int held = 0; held <= 999; held += 999) {
                BarSteps x = alike(8, 0, 9, 1, 5);
                x.end(side, held);
                for (int i = 0; i < 8; i++) {
                    dueParts(27, "as the one end", steady(x, i), held, 1);
                }
                due(30, "lay", x.lay(), 1);
                x.end(side, -1);
                due(27, "shut again", x.steady(0, 0), NO);
            }
        }
        for (int finned = 0; finned < 8; finned++) {
            BarSteps x = alike(8, 0, 9, 1, 5);
            x.set(finned, 2, 3);
            x.rule(1, 7);
            for (int i = 0; i < 8; i++) {
                dueParts(27, "as the air", steady(x, i), 7, 1);
            }
            x.set(finned, 3, 9);
            dueParts(27, "9 more go to the air", steady(x, finned), 16, 1);
            dueParts(28, "nothing flows to a shut end", steadyFlow(x, -1), 0, 1);
            dueParts(28, "nothing flows to a shut end", steadyFlow(x, 7), 0, 1);
            x.set(finned, 2, 1);
            due(27, "no fin again", x.steady(finned, 0), NO);
        }
    }

    /** From 8 CELLS down to one, and up again: what was reckoned of more of them does not stay. */
    private static void steadyOfFewer() {
        BarSteps x = alike(8, 0, 2, 1, 5);
        x.end(0, 3);
        x.end(1, 9);
        for (int n = 8; n >= 1; n--) {
            dueOnTheWay(x, n);
            x.drop();
        }
        due(27, "of none", x.steady(0, 0), NO);
        for (int n = 1; n <= 8; n++) {
            x.cell(0, 2, 1, 5);
            dueOnTheWay(x, n);
        }
    }

    private static void dueOnTheWay(BarSteps x, int n) {
        for (int i = 0; i < n; i++) {
            long above = 3 * (n + 1) + 6 * (i + 1);
            long shared = java.math.BigInteger.valueOf(above).gcd(java.math.BigInteger.valueOf(n + 1)).longValue();
            dueParts(27, "on the way from 3 to 9, of " + n, steady(x, i), above / shared, (n + 1) / shared);
        }
        due(29, "the last is the hottest", x.hottest(), n - 1);
    }

    /** FINE, HOLDS don't matter; PULSES aside; nor do T as they are. */
    private static void fineAndHoldsDontMatter() {
        BarSteps x = bar(0, 2, 1, 0, 0, 1, 1, 999);
        x.end(0, 0);
        x.end(1, 1);
        // Leads 2, 1, 1: T0 is 1/5, T1 is 3/5
        for (int fine = 1; fine <= 20; fine += 19) {
            for (int c = 1; c <= 4; c++) {
                x.rule(0, fine);
                x.set(0, 1, c);
                x.set(1, 1, 5 - c);
                dueParts(27, "the first", steady(x, 0), 1, 5);
                dueParts(27, "the second", steady(x, 1), 3, 5);
                dueParts(28, "the flow", steadyFlow(x, 0), -2, 5);
            }
        }
        x.set(0, 2, 2);
        x.set(1, 2, 2);
        x.pulse(0, 1, 99);
        x.heat(0, 999);
        dueParts(27, "of DENSE ones", steady(x, 0), 1, 5);
        dueParts(27, "of DENSE ones", steady(x, 1), 3, 5);
    }

    /** The greatest STEADY T, of like ones the first. */
    private static void hottest() {
        BarSteps x = alike(8, 0, 1, 1, 5);
        x.heat(4, 999);
        x.end(0, 9);
        due(29, "all alike, whatever T is", x.hottest(), 0);
        x.end(1, 10);
        due(29, "towards the right", x.hottest(), 7);
        x.end(1, 8);
        due(29, "towards the left", x.hottest(), 0);
        x.end(1, 9);
        x.set(3, 3, 9);
        due(29, "at the source", x.hottest(), 3);
        x.set(4, 3, 9);
        due(29, "at the first of two", x.hottest(), 3);
        x.set(3, 3, 8);
        due(29, "at the greater of two", x.hottest(), 4);
        // Below 0, as 0 is held at both ends
        x = alike(3, 0, 1, 1, 5);
        x.end(0, 0);
        x.end(1, 0);
        x.set(0, 3, -9);
        due(29, "the least below 0", x.hottest(), 2);
        due(29, "of one cell", oneCell(-9), 0);
    }

    private static int oneCell(int source) {
        BarSteps x = bar(0, 1, 1, 5);
        x.end(0, 0);
        x.set(0, 3, source);
        return x.hottest();
    }

    /** T of all CELLS becomes STEADY, truly (PULSES stay): 1. */
    private static void lay() {
        BarSteps x = atTheBound();
        x.cell(0, 2, 4, 999);
        x.cell(3, 9, 1, 999);
        x.pulse(1, 1, 6);
        x.end(0, 0);
        x.rule(1, 1);
        // Leads 1, 1, 2 and a FIN: T0 is a, T1 is 2 a, T2 is 5/2 a, and a is 1 less 5/2 a
        due(30, "lay", x.lay(), 1);
        dueParts(30, "T0", t(x, 0), 2, 7);
        dueParts(30, "T1", t(x, 1), 4, 7);
        dueParts(30, "T2", t(x, 2), 5, 7);
        due(30, "the line is the least", x.line(), 7);
        due(30, "pulses stay", x.pulseOf(0, 1) * 10 + x.pulseOf(0, 2), 16);
        due(31, "it rests, pulses aside", x.isSteady(), 1);
        due(30, "lay again", x.lay(), 1);
        x.step(1);
        dueParts(30, "but for what came, no step changes it", t(x, 0), 2, 7);
        dueParts(30, "what came", t(x, 1), 46, 7);
        // No lay is refused as FULL: no steady heats are that large (NOTES.md tells why)
        x = alike(8, 0, 9, 1, 0);
        x.end(0, 999);
        x.end(1, 998);
        due(30, "lay", x.lay(), 1);
        for (int i = 0; i < 8; i++) {
            long above = 9 * 999 - (i + 1);
            long shared = i == 2 || i == 5 ? 3 : 1;
            dueParts(30, "on the way from 999 to 998", t(x, i), above / shared, 9 / shared);
        }
        due(31, "it rests", x.isSteady(), 1);
        due(19, "and stays", x.step(40), 40);
        dueParts(19, "so", t(x, 0), 8990, 9);
        // What is largest above the line: SIDE 9, both ends held at 999, all sources at 9
        x.end(1, 999);
        for (int i = 0; i < 8; i++) {
            x.set(i, 3, 9);
        }
        due(30, "lay of the largest", x.lay(), 1);
        for (int i = 0; i < 8; i++) {
            dueParts(30, "999 and (i + 1) (8 - i) / 2", t(x, i), 999 + (i + 1) * (8 - i) / 2, 1);
        }
    }

    /** Whether T are such that, PULSES aside, no STEP changes any: 1, 0 (without CELLS 1). */
    private static void isSteady() {
        BarSteps x = new BarSteps();
        due(31, "without cells", x.isSteady(), 1);
        x.end(0, 5);
        due(31, "without cells, an end held", x.isSteady(), 1);
        for (int other = 0; other < 8; other++) {
            x = alike(8, 0, 1, 1, 5);
            due(31, "alike", x.isSteady(), 1);
            x.heat(other, 6);
            due(31, "but for one", x.isSteady(), 0);
            x.heat(other, 5);
            x.set(other, 3, 1);
            due(31, "but for a source", x.isSteady(), 0);
            x.set(other, 3, 0);
            x.set(other, 2, 3);
            due(31, "but for a fin", x.isSteady(), 0);
            x.rule(1, 5);
            due(31, "a fin, but the air is as hot", x.isSteady(), 1);
            x.pulse(other, 1, 9);
            due(31, "pulses aside", x.isSteady(), 1);
        }
        // By what is least: 10^12 - 9^12 by 10^12, beside 1
        x = atTheBound();
        due(31, "a fraction, alone", x.isSteady(), 1);
        x.cell(0, 1, 1, 1);
        due(31, "beside 1", x.isSteady(), 0);
        // A source in balance: 3 flow from the one to the other
        x = bar(0, 1, 1, 8, 0, 1, 1, 5);
        x.set(0, 3, 3);
        x.set(1, 3, -3);
        due(31, "in balance", x.isSteady(), 1);
        x.set(1, 3, -2);
        due(31, "the last is not", x.isSteady(), 0);
        x.set(0, 3, 2);
        x.set(1, 3, -3);
        due(31, "the first is not", x.isSteady(), 0);
    }
}
