import java.util.NoSuchElementException;

/** Sentences of the terms on lists aside and merging: nothing or empty lists aside, just as many counters, and too many. */
final class MergeSentences {
    private static final String MERGING = "LISTS ASIDE, MERGING";
    private static final String PUT_ASIDE = "The lists (with the true counts) can be put aside, in place of others that "
        + "were aside; then new ones are begun.";
    private static final String MERGED = "When what is aside is merged in, nothing is aside any more, the true counts are "
        + "added, and both lists change:";
    private static final String SUMS = "In the first list, each parrot that has a counter in one of both lists gets a "
        + "counter whose count is the sum of its estimates by both lists, and whose surplus is that sum minus the sum of "
        + "its sure counts by both lists.";
    private static final String GREATEST_STAY = "If there are more than k + 1 counters then, those with the greatest "
        + "counts stay, of several with the same count those of the parrots with the lowest numbers.";
    private static final String ORDER = "From now on, the counters count as changed in the order of their parrots' "
        + "numbers, the lowest one longest ago.";
    private static final String ADDED = "In the second list, the counts of both lists are added for each parrot (a missing "
        + "counter counts as 0).";
    private static final String WORN = "If there are more than k counters then, all counts become less by the (k + 1)-th "
        + "greatest of them, and counters with counts of 0 or less are removed.";
    private static final String WEAR = "The wear becomes the sum of both, plus what all counts became less by.";

    private MergeSentences() {
    }

    static void run() {
        Document.test(MERGING, PUT_ASIDE, "in place of others", MergeSentences::inPlaceOfOthers);
        Document.test(MERGING, PUT_ASIDE, "new ones", MergeSentences::newLists);
        Document.test(MERGING, PUT_ASIDE, "empty lists", MergeSentences::emptyLists);
        Document.test(MERGING, MERGED, MergeSentences::nothingAsideAnyMore);
        firstLists();
        secondLists();
    }

    private static void firstLists() {
        Document.test(MERGING, SUMS, "a counter in both lists", MergeSentences::counterInBoth);
        Document.test(MERGING, SUMS, "no counter in a list that is not full", MergeSentences::noCounterNoFloor);
        Document.test(MERGING, SUMS, "no counter in a full list aside", MergeSentences::floorOfAside);
        Document.test(MERGING, SUMS, "no counter in the full list that goes on", MergeSentences::floorOfOwn);
        Document.test(MERGING, SUMS, "both lists are full", MergeSentences::bothFloors);
        Document.test(MERGING, GREATEST_STAY, "k + 1 counters", MergeSentences::justEnough);
        Document.test(MERGING, GREATEST_STAY, "k + 2 counters", MergeSentences::oneTooMany);
        Document.test(MERGING, GREATEST_STAY, "twice as many", MergeSentences::twiceAsMany);
        Document.test(MERGING, GREATEST_STAY, "several with the same count", MergeSentences::severalAlike);
        Document.test(MERGING, ORDER, "by numbers", MergeSentences::orderByNumbers);
        Document.test(MERGING, ORDER, "with nothing in one of both lists", MergeSentences::orderWithEmptyLists);
        Document.test(MERGING, ORDER, "from now on", MergeSentences::orderFromNowOn);
    }

    private static void secondLists() {
        Document.test(MERGING, ADDED, MergeSentences::countsAdded);
        Document.test(MERGING, WORN, "k counters", MergeSentences::justEnoughWorn);
        Document.test(MERGING, WORN, "k + 1 counters", MergeSentences::oneTooManyWorn);
        Document.test(MERGING, WORN, "counts of 0 or less", MergeSentences::zeroOrLess);
        Document.test(MERGING, WORN, "several with the same count", MergeSentences::severalWornAlike);
        Document.test(MERGING, WORN, "all with the same count", MergeSentences::allWornAlike);
        Document.test(MERGING, WEAR, MergeSentences::wearAdded);
    }

    /** The first song is put aside, the second one is heard by the new lists, and both are merged. */
    private static ParrotCounts merged(int capacity, String aside, String own) {
        ParrotCounts x = Given.sung(capacity, aside);
        x.putAside();
        Given.sing(x, own);
        x.mergeIn();
        return x;
    }

    private static void counterIs(ParrotCounts x, int parrot, int count, int surplus) {
        Checks.same(count, x.estimate(parrot), "the count of " + parrot);
        Checks.same(surplus, x.surplus(parrot), "the surplus of " + parrot);
    }

    private static void noCounter(ParrotCounts x, int parrot) {
        Checks.fails(NoSuchElementException.class, () -> x.surplus(parrot), "the surplus of " + parrot);
    }

    private static void inPlaceOfOthers() {
        ParrotCounts x = Given.sung(2, "5a4b3cd");
        x.putAside();
        Given.sing(x, "2z");
        x.putAside();
        Checks.same(2, x.mergeIn(), "only the calls of z");
        Checks.same(1, x.counters(), "only the counter of z");
        Checks.same(1, x.wornCounters(), "in the second list too");
        Checks.same(0, x.wear(), "no wear");
        Checks.same(0, x.trueCount(0), "a is forgotten");
    }

    private static void newLists() {
        ParrotCounts x = Given.sung(2, "5a4b3cd");
        x.putAside();
        Checks.same(0, x.counters() + x.callsByCounters() + x.floor(), "the first list is empty");
        Checks.same(0, x.wornCounters() + x.wear(), "the second one too");
        Checks.same(0, x.calls() + x.parrotsHeard(), "and the true counts");
        Checks.same(2, x.capacity(), "the capacity stays");
        Given.sing(x, "2ef2g2h");
        Checks.same(3, x.counters(), "so the first list has three counters");
        Checks.same(7, x.loudest(0), "and h takes over the least one, of f, with two calls");
    }

    private static void emptyLists() {
        ParrotCounts x = new ParrotCounts();
        Checks.same(0, x.putAside(), "nothing was heard");
        Checks.same(true, x.hasAside(), "empty lists are aside all the same");
        Checks.same(0, x.mergeIn(), "and can be merged in");
        Checks.same(0, x.counters() + x.wornCounters() + x.wear() + x.floor(), "which changes nothing");
        Checks.same(0.0, x.loudestShare(), "the share");
    }

    private static void nothingAsideAnyMore() {
        ParrotCounts x = merged(2, "3ab2z", "2ac");
        Checks.same(false, x.hasAside(), "aside");
        Checks.fails(IllegalStateException.class, x::mergeIn, "once more");
        int[] due = {5, 1, 1, 0};
        for (int parrot = 0; parrot < due.length; parrot++) {
            Checks.same(due[parrot], x.trueCount(parrot), "the true count of " + parrot);
        }
        Checks.same(2, x.trueCount(25), "the true count of z");
        Checks.same(9, x.calls(), "calls");
    }

    private static void counterInBoth() {
        // Aside a has 3, b 2, and c took over that of b: 3, surplus 2. The new list has c 2, a 2 with the surplus 1.
        ParrotCounts x = merged(1, "3a2bc", "2cba");
        counterIs(x, 0, 3 + 2, 1);
        counterIs(x, 2, 3 + 2, 2);
        Checks.same(2, x.counters(), "counters");
    }

    private static void noCounterNoFloor() {
        ParrotCounts x = merged(3, "4a3b", "2c");
        counterIs(x, 0, 4, 0);
        counterIs(x, 1, 3, 0);
        counterIs(x, 2, 2, 0);
        Checks.same(0, x.floor(), "a counter is left");
        ParrotCounts y = merged(3, "za", "yb");
        for (int parrot : new int[] {0, 1, 24, 25}) {
            counterIs(y, parrot, 1, 0);
        }
        Checks.same(2, merged(3, "a", "a").estimate(0), "the least counts there are");
    }

    private static void floorOfAside() {
        ParrotCounts x = merged(1, "4a3b", "2c");
        counterIs(x, 0, 4, 0);
        counterIs(x, 2, 2 + 3, 3);
        noCounter(x, 1);
    }

    private static void floorOfOwn() {
        ParrotCounts x = merged(1, "2c", "4a3b");
        counterIs(x, 0, 4, 0);
        counterIs(x, 2, 2 + 3, 3);
        noCounter(x, 1);
    }

    private static void bothFloors() {
        ParrotCounts x = merged(1, "5a3b", "9c7d");
        counterIs(x, 0, 5 + 7, 7);
        counterIs(x, 2, 9 + 3, 3);
        Checks.same(12, x.floor(), "3 + 7 of b, and 7 + 3 of d are gone");
    }

    private static void justEnough() {
        for (int capacity = 1; capacity <= 9; capacity++) {
            ParrotCounts x = merged(capacity, "2z", "abcdefghi".substring(0, capacity));
            Checks.same(capacity + 1, x.counters(), "all stay with the capacity " + capacity);
            counterIs(x, 25, 2, 0);
            counterIs(x, 0, 1, 0);
            Checks.same(1, x.floor(), "the list is full");
        }
    }

    private static void oneTooMany() {
        for (int capacity = 1; capacity <= 9; capacity++) {
            String others = "2z2y2x2w2v2u2t2s2r".substring(0, 2 * capacity);
            ParrotCounts x = merged(capacity, "3q", others + "a");
            // The new list is full with the floor 1 of a; q has 3 + 1, a has 1.
            Checks.same(capacity + 1, x.counters(), "counters with the capacity " + capacity);
            noCounter(x, 0);
            counterIs(x, 16, 4, 1);
            counterIs(x, 25, 2, 0);
        }
    }

    private static void twiceAsMany() {
        ParrotCounts x = merged(9, "9a8b7c6d5e4f3g2h2ij", "9k8l7m6n5o4p3q2r2st");
        // Each floor is 1, so all get one more: those that stay have 10 to 6, of both lists.
        Checks.same(10, x.counters(), "counters");
        int[] due = {0, 10, 1, 11, 2, 12, 3, 13, 4, 14};
        for (int position = 0; position < due.length; position++) {
            Checks.same(due[position], x.loudest(position), "position " + position);
            counterIs(x, due[position], 10 - position / 2, 1);
        }
        Checks.same(6, x.floor(), "floor");
    }

    private static void severalAlike() {
        ParrotCounts x = merged(2, "zxv", "ywu");
        // All have 1 + 1.
        counterIs(x, 20, 2, 1);
        counterIs(x, 21, 2, 1);
        counterIs(x, 22, 2, 1);
        Checks.same(3, x.counters(), "x, y and z do not stay");
        ParrotCounts y = merged(1, "3zy", "2a");
        // z 3 + 0, y 1 + 0, a 2 + 1.
        counterIs(y, 25, 3, 0);
        counterIs(y, 0, 3, 1);
        Checks.same(2, y.counters(), "a greater count is worth more than a low number");
    }

    private static void orderByNumbers() {
        ParrotCounts x = merged(3, "2z2y", "2x2w");
        for (int oldest = 22; oldest < 26; oldest++) {
            Checks.same(oldest, x.nextTakenOver(), "the oldest one");
            x.hear(oldest);
        }
        Checks.same(22, x.nextTakenOver(), "w is the oldest one again");
    }

    private static void orderWithEmptyLists() {
        ParrotCounts x = Given.sung(1, "ba");
        Checks.same(1, x.nextTakenOver(), "b was heard first");
        x.putAside();
        x.mergeIn();
        Checks.same(0, x.nextTakenOver(), "merged into empty lists");
        ParrotCounts y = new ParrotCounts();
        y.empty(1);
        y.putAside();
        Given.sing(y, "ba");
        Checks.same(1, y.nextTakenOver(), "b was heard first");
        y.mergeIn();
        Checks.same(0, y.nextTakenOver(), "merged with empty lists");
    }

    private static void orderFromNowOn() {
        ParrotCounts x = merged(1, "2z", "2y");
        x.hear(25);
        x.hear(24);
        Checks.same(25, x.nextTakenOver(), "both have 3, and z was heard before y");
        ParrotCounts y = merged(1, "3z", "2a");
        y.hear(0);
        Checks.same(25, y.nextTakenOver(), "both have 3, and only a was heard since then");
    }

    private static void countsAdded() {
        ParrotCounts x = merged(3, "4a3b", "2b5c");
        Checks.same(4, x.wornCount(0), "a is missing in the new list");
        Checks.same(5, x.wornCount(1), "b is in both");
        Checks.same(5, x.wornCount(2), "c is missing aside");
        Checks.same(0, x.wornCount(25), "z is missing in both");
        Checks.same(3, x.wornCounters(), "counters");
    }

    private static void justEnoughWorn() {
        for (int capacity = 1; capacity <= 9; capacity++) {
            ParrotCounts x = merged(capacity, "2a", "a2b2c2d2e2f2g2h2i".substring(0, 2 * capacity - 1));
            Checks.same(capacity, x.wornCounters(), "all stay with the capacity " + capacity);
            Checks.same(3, x.wornCount(0), "a");
            Checks.same(0, x.wear(), "no wear");
        }
    }

    private static void oneTooManyWorn() {
        for (int capacity = 1; capacity <= 9; capacity++) {
            ParrotCounts x = merged(capacity, "2z", "9a8b7c6d5e5f4g4h3i".substring(0, 2 * capacity));
            // The 2 of z is the (k + 1)-th greatest.
            Checks.same(capacity, x.wornCounters(), "z is removed with the capacity " + capacity);
            Checks.same(0, x.wornCount(25), "z");
            Checks.same(7, x.wornCount(0), "a");
            Checks.same(2, x.wear(), "wear");
        }
    }

    private static void zeroOrLess() {
        ParrotCounts x = merged(2, "5a2b", "c4d");
        // Sums: a 5, d 4, b 2, c 1; all become less by 2.
        Checks.same(3, x.wornCount(0), "a");
        Checks.same(2, x.wornCount(3), "d");
        Checks.same(0, x.wornCount(1), "b has 0");
        Checks.same(0, x.wornCount(2), "c would have less than 0");
        Checks.same(2, x.wornCounters(), "counters");
        x.hear(2);
        Checks.same(0, x.wornCount(2), "and has no counter that could become greater");
        Checks.same(2, x.wornCount(0), "but wears down that of a");
    }

    private static void severalWornAlike() {
        ParrotCounts x = merged(2, "5a3b", "3c");
        Checks.same(2, x.wornCount(0), "a");
        Checks.same(1, x.wornCounters(), "b and c are removed, though there could be two counters");
        x.hear(2);
        Checks.same(1, x.wornCount(2), "so c gets one");
        Checks.same(3, x.wear(), "without wear");
    }

    private static void allWornAlike() {
        ParrotCounts x = merged(1, "3a", "3b");
        Checks.same(0, x.wornCounters(), "none stays");
        Checks.same(3, x.wear(), "wear");
        ParrotCounts y = merged(9, "abcdefghi", "jklmnopqr");
        Checks.same(0, y.wornCounters(), "none of 18 stays");
        Checks.same(1, y.wear(), "wear");
    }

    private static void wearAdded() {
        // Aside a has 3 and was worn twice, the new list has c 2 and was worn once; a stays with 1.
        ParrotCounts x = merged(1, "5abc", "3cd");
        Checks.same(1, x.wornCount(0), "a");
        Checks.same(2 + 1 + 2, x.wear(), "with what a and c became less by");
        ParrotCounts y = merged(1, "5abc", "3ad");
        Checks.same(5, y.wornCount(0), "a in both");
        Checks.same(2 + 1, y.wear(), "nothing became less");
    }
}
