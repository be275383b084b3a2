import java.util.Arrays;
import java.util.NoSuchElementException;

/**
 * The loudest parrots told by few counters. A first list has counters that are taken over by other
 * parrots, a second list has counters that are worn down together; both are compared with true counts.
 */
public final class ParrotCounts {

    private static final int PARROTS = 26;
    private static final int NO_PARROT = -1;
    private static final int CAPACITY_AT_FIRST = 4;
    private static final int LEAST_CAPACITY = 1;
    private static final int MOST_CAPACITY = 9;
    private static final int MOST_CALLS = 99999;
    private static final int MOST_SONG_CALLS = 1000;
    private static final int MOST_CHARACTERS = 60;
    private static final int MOST_STATES = 5;
    private static final int MOST_PERMILLE = 1000;
    private static final int LEAST_NUMBER = 2;
    private static final int LAST_DIGIT = 9;

    private final State state = new State();
    private final History history = new History();
    private final SongText text = new SongText();

    public ParrotCounts() {
        state.beginAnew(CAPACITY_AT_FIRST);
    }

    // ---- modifications

    public int hear(int parrot) throws IndexOutOfBoundsException, IllegalStateException {
        requireParrot(parrot);
        requireFewCalls(state.own.sumOfCalls() + 1);
        history.record(state);
        state.own.take(parrot);
        return state.own.first.estimateOf(parrot);
    }

    public int hearSong() throws IllegalArgumentException, IllegalStateException {
        int songCalls = requireSong();
        if (songCalls > MOST_SONG_CALLS) {
            throw new IllegalStateException("the song has too many calls");
        }
        requireFewCalls(state.own.sumOfCalls() + songCalls);
        history.record(state);
        text.unfold();
        for (int call = 0; call < text.unfoldedCalls; call++) {
            state.own.take(text.unfolded[call]);
        }
        return state.own.sumOfCalls();
    }

    public int empty(int capacity) throws IllegalArgumentException {
        if (capacity < LEAST_CAPACITY || capacity > MOST_CAPACITY) {
            throw new IllegalArgumentException("the capacity is out of range");
        }
        history.record(state);
        int previous = state.capacity;
        state.beginAnew(capacity);
        return previous;
    }

    public int putAside() {
        history.record(state);
        state.ownToAside();
        return state.aside.sumOfCalls();
    }

    public int mergeIn() throws IllegalStateException {
        if (!state.isAside) {
            throw new IllegalStateException("nothing is aside");
        }
        requireFewCalls(state.own.sumOfCalls() + state.aside.sumOfCalls());
        history.record(state);
        state.asideToOwn();
        return state.own.sumOfCalls();
    }

    // ---- text

    public int append(char character) throws IllegalStateException {
        if (text.length >= MOST_CHARACTERS) {
            throw new IllegalStateException("the text is full");
        }
        text.add(character);
        return text.length;
    }

    public int clearText() {
        int previous = text.length;
        text.length = 0;
        return previous;
    }

    public boolean isValid() {
        return text.isSong();
    }

    public int firstError() throws IllegalStateException {
        if (text.isSong()) {
            throw new IllegalStateException("the text is a song");
        }
        return text.readLength();
    }

    public int callsOfSong() throws IllegalArgumentException {
        return requireSong();
    }

    // ---- history

    public int undo() throws IllegalStateException {
        if (history.size == 0) {
            throw new IllegalStateException("the history is empty");
        }
        history.restoreLatest(state);
        return history.size;
    }

    // ---- the first list

    public int counters() {
        return state.own.first.size;
    }

    public int estimate(int parrot) throws IndexOutOfBoundsException {
        requireParrot(parrot);
        return state.own.first.estimateOf(parrot);
    }

    public int sureCount(int parrot) throws IndexOutOfBoundsException {
        requireParrot(parrot);
        return state.own.first.sureOf(parrot);
    }

    public int surplus(int parrot) throws IndexOutOfBoundsException, NoSuchElementException {
        requireParrot(parrot);
        if (state.own.first.counts[parrot] == 0) {
            throw new NoSuchElementException("the parrot has no counter");
        }
        return state.own.first.surpluses[parrot];
    }

    public int floor() {
        return state.own.first.leastCount();
    }

    public int nextTakenOver() throws NoSuchElementException {
        if (!state.own.first.isFull()) {
            throw new NoSuchElementException("no counter would be taken over");
        }
        return state.own.first.weakest();
    }

    public int loudest(int position) throws IllegalArgumentException, NoSuchElementException {
        if (position < 0) {
            throw new IllegalArgumentException("the position is negative");
        }
        if (position >= state.own.first.size) {
            throw new NoSuchElementException("there are not so many counters");
        }
        return parrotAt(state.own.first.counts, position);
    }

    public int surelyAbove(int permille) throws IllegalArgumentException {
        requirePermille(permille);
        return parrotsAbove(permille, Measure.SURE);
    }

    public int perhapsAbove(int permille) throws IllegalArgumentException {
        requirePermille(permille);
        return parrotsAbove(permille, Measure.ESTIMATED);
    }

    public int trulyAbove(int permille) throws IllegalArgumentException {
        requirePermille(permille);
        return parrotsAbove(permille, Measure.TRUE);
    }

    // ---- the second list

    public int wornCounters() {
        return state.own.second.size;
    }

    public int wornCount(int parrot) throws IndexOutOfBoundsException {
        requireParrot(parrot);
        return state.own.second.counts[parrot];
    }

    public int aboveFloor(int parrot) throws IndexOutOfBoundsException {
        requireParrot(parrot);
        return state.own.first.estimateOf(parrot) - state.own.first.leastCount();
    }

    public int wear() {
        return state.own.second.wornBy;
    }

    // ---- counts

    public int capacity() {
        return state.capacity;
    }

    public int trueCount(int parrot) throws IndexOutOfBoundsException {
        requireParrot(parrot);
        return state.own.trueCounts[parrot];
    }

    public int calls() {
        return state.own.sumOfCalls();
    }

    public int callsByCounters() {
        return sumOf(state.own.first.counts);
    }

    public int parrotsHeard() {
        return countersIn(state.own.trueCounts);
    }

    public int greatestError() {
        int greatest = 0;
        for (int parrot = 0; parrot < PARROTS; parrot++) {
            int error = state.own.first.estimateOf(parrot) - state.own.trueCounts[parrot];
            greatest = Math.max(greatest, error);
        }
        return greatest;
    }

    public boolean hasAside() {
        return state.isAside;
    }

    public double loudestShare() {
        int calls = state.own.sumOfCalls();
        int loudest = parrotAt(state.own.first.counts, 0);
        if (calls == 0 || loudest == NO_PARROT) {
            return 0.0;
        }
        return (double) state.own.first.counts[loudest] / calls;
    }

    public int historySize() {
        return history.size;
    }

    // ---- what the methods above have in common

    private static void requireParrot(int parrot) {
        if (parrot < 0 || parrot >= PARROTS) {
            throw new IndexOutOfBoundsException("there is no such parrot");
        }
    }

    private static void requireFewCalls(int calls) {
        if (calls > MOST_CALLS) {
            throw new IllegalStateException("there would be too many calls");
        }
    }

    private static void requirePermille(int permille) {
        if (permille < 0 || permille > MOST_PERMILLE) {
            throw new IllegalArgumentException("permille is out of range");
        }
    }

    private int requireSong() {
        if (!text.isSong()) {
            throw new IllegalArgumentException("the text is not a song");
        }
        return text.reading.calls;
    }

    private int parrotsAbove(int permille, Measure measure) {
        int share = permille * state.own.sumOfCalls();
        int above = 0;
        for (int parrot = 0; parrot < PARROTS; parrot++) {
            if (state.own.measured(parrot, measure) * MOST_PERMILLE > share) {
                above |= 1 << parrot;
            }
        }
        return above;
    }

    // ---- rows of one count for each parrot; a count of 0 stands for a missing counter

    private static int sumOf(int[] counts) {
        int sum = 0;
        for (int count : counts) {
            sum += count;
        }
        return sum;
    }

    private static int countersIn(int[] counts) {
        int counters = 0;
        for (int count : counts) {
            if (count > 0) {
                counters++;
            }
        }
        return counters;
    }

    /** The parrot at a position by counts, the greatest first, and with the same count by numbers. */
    private static int parrotAt(int[] counts, int position) {
        for (int parrot = 0; parrot < counts.length; parrot++) {
            if (counts[parrot] > 0 && positionOf(counts, parrot) == position) {
                return parrot;
            }
        }
        return NO_PARROT;
    }

    private static int positionOf(int[] counts, int parrot) {
        int position = 0;
        for (int other = 0; other < counts.length; other++) {
            boolean isLouder = counts[other] > counts[parrot];
            boolean isAsLoudWithLowerNumber = counts[other] == counts[parrot] && other < parrot;
            if (isLouder || isAsLoudWithLowerNumber) {
                position++;
            }
        }
        return position;
    }

    private static void copyRow(int[] from, int[] to) {
        System.arraycopy(from, 0, to, 0, Math.min(from.length, to.length));
    }

    private enum Measure { SURE, ESTIMATED, TRUE }

    /** The first list: when all counters are given away, the weakest one is taken over. */
    private static final class FirstList {
        final int[] counts = new int[PARROTS];
        final int[] surpluses = new int[PARROTS];
        final int[] changedAt = new int[PARROTS];
        int changes;
        int size;
        int room;

        void beginAnew(int mostCounters) {
            Arrays.fill(counts, 0);
            changes = 0;
            size = 0;
            room = mostCounters;
        }

        void copyFrom(FirstList other) {
            copyRow(other.counts, counts);
            copyRow(other.surpluses, surpluses);
            copyRow(other.changedAt, changedAt);
            changes = other.changes;
            size = other.size;
            room = other.room;
        }

        boolean isFull() {
            return size >= room;
        }

        void take(int parrot) {
            if (counts[parrot] == 0) {
                giveCounter(parrot);
            }
            counts[parrot]++;
            changes++;
            changedAt[parrot] = changes;
        }

        /** The counter begins with its surplus; the call that it is given for is not yet in it. */
        private void giveCounter(int parrot) {
            int surplus = leastCount();
            if (isFull()) {
                remove(weakest());
            }
            counts[parrot] = surplus;
            surpluses[parrot] = surplus;
            size++;
        }

        private void remove(int parrot) {
            if (parrot != NO_PARROT) {
                counts[parrot] = 0;
                size--;
            }
        }

        /** The parrot with the least count, of several the one that was changed longest ago. */
        int weakest() {
            int weakest = NO_PARROT;
            for (int parrot = 0; parrot < PARROTS; parrot++) {
                if (counts[parrot] > 0 && (weakest == NO_PARROT || isWeaker(parrot, weakest))) {
                    weakest = parrot;
                }
            }
            return weakest;
        }

        private boolean isWeaker(int parrot, int other) {
            if (counts[parrot] != counts[other]) {
                return counts[parrot] < counts[other];
            }
            return changedAt[parrot] < changedAt[other];
        }

        /** The floor: 0 as long as there are counters to give away. */
        int leastCount() {
            int weakest = weakest();
            return isFull() && weakest != NO_PARROT ? counts[weakest] : 0;
        }

        int estimateOf(int parrot) {
            return counts[parrot] > 0 ? counts[parrot] : leastCount();
        }

        int sureOf(int parrot) {
            return counts[parrot] > 0 ? counts[parrot] - surpluses[parrot] : 0;
        }

        void mergeWith(FirstList other) {
            addCounters(other);
            size = countersIn(counts);
            for (int position = size - 1; position >= room; position--) {
                remove(parrotAt(counts, position));
            }
            for (int parrot = 0; parrot < PARROTS; parrot++) {
                changedAt[parrot] = parrot;
            }
            changes = PARROTS;
        }

        private void addCounters(FirstList other) {
            // Both floors are those before the merging, and the counts change below.
            int ownFloor = leastCount();
            int otherFloor = other.leastCount();
            for (int parrot = 0; parrot < PARROTS; parrot++) {
                if (counts[parrot] > 0 || other.counts[parrot] > 0) {
                    int sure = sureOf(parrot) + other.sureOf(parrot);
                    int ownCount = counts[parrot] > 0 ? counts[parrot] : ownFloor;
                    int otherCount = other.counts[parrot] > 0 ? other.counts[parrot] : otherFloor;
                    counts[parrot] = ownCount + otherCount;
                    surpluses[parrot] = counts[parrot] - sure;
                }
            }
        }
    }

    /** The second list: when all counters are given away, all are worn down together. */
    private static final class SecondList {
        final int[] counts = new int[PARROTS];
        int wornBy;
        int size;
        int room;

        void beginAnew(int mostCounters) {
            Arrays.fill(counts, 0);
            wornBy = 0;
            size = 0;
            room = mostCounters;
        }

        void copyFrom(SecondList other) {
            copyRow(other.counts, counts);
            wornBy = other.wornBy;
            size = other.size;
            room = other.room;
        }

        void take(int parrot) {
            if (counts[parrot] > 0) {
                counts[parrot]++;
            } else if (size < room) {
                counts[parrot] = 1;
                size++;
            } else {
                wearDown(1);
            }
        }

        private void wearDown(int less) {
            for (int parrot = 0; parrot < PARROTS; parrot++) {
                counts[parrot] = Math.max(counts[parrot] - less, 0);
            }
            size = countersIn(counts);
            wornBy += less;
        }

        void mergeWith(SecondList other) {
            for (int parrot = 0; parrot < PARROTS; parrot++) {
                counts[parrot] += other.counts[parrot];
            }
            size = countersIn(counts);
            wornBy += other.wornBy;
            int firstTooMany = parrotAt(counts, room);
            if (firstTooMany != NO_PARROT) {
                wearDown(counts[firstTooMany]);
            }
        }
    }

    /** Both lists of a listener, with the true counts. */
    private static final class Listener {
        final FirstList first = new FirstList();
        final SecondList second = new SecondList();
        final int[] trueCounts = new int[PARROTS];

        void beginAnew(int capacity) {
            first.beginAnew(capacity + 1);
            second.beginAnew(capacity);
            Arrays.fill(trueCounts, 0);
        }

        void copyFrom(Listener other) {
            first.copyFrom(other.first);
            second.copyFrom(other.second);
            copyRow(other.trueCounts, trueCounts);
        }

        void take(int parrot) {
            first.take(parrot);
            second.take(parrot);
            trueCounts[parrot]++;
        }

        void mergeWith(Listener other) {
            first.mergeWith(other.first);
            second.mergeWith(other.second);
            for (int parrot = 0; parrot < PARROTS; parrot++) {
                trueCounts[parrot] += other.trueCounts[parrot];
            }
        }

        int sumOfCalls() {
            return sumOf(trueCounts);
        }

        int measured(int parrot, Measure measure) {
            if (measure == Measure.SURE) {
                return first.sureOf(parrot);
            }
            return measure == Measure.ESTIMATED ? first.estimateOf(parrot) : trueCounts[parrot];
        }
    }

    /** All that a state of the history consists of. */
    private static final class State {
        final Listener own = new Listener();
        final Listener aside = new Listener();
        boolean isAside;
        int capacity;

        void beginAnew(int newCapacity) {
            capacity = newCapacity;
            own.beginAnew(newCapacity);
            isAside = false;
        }

        void copyFrom(State other) {
            own.copyFrom(other.own);
            aside.copyFrom(other.aside);
            isAside = other.isAside;
            capacity = other.capacity;
        }

        void ownToAside() {
            aside.copyFrom(own);
            isAside = true;
            own.beginAnew(capacity);
        }

        void asideToOwn() {
            own.mergeWith(aside);
            isAside = false;
        }
    }

    /** The latest states, in a ring of objects that are used again. */
    private static final class History {
        final State[] states = new State[MOST_STATES];
        int next;
        int size;

        History() {
            for (int index = 0; index < MOST_STATES; index++) {
                states[index] = new State();
            }
        }

        void record(State state) {
            states[next].copyFrom(state);
            next = next + 1 < MOST_STATES ? next + 1 : 0;
            size = Math.min(size + 1, MOST_STATES);
        }

        void restoreLatest(State state) {
            next = next > 0 ? next - 1 : MOST_STATES - 1;
            size--;
            state.copyFrom(states[next]);
        }
    }

    /** The text buffer, and the calls of its song. */
    private static final class SongText {
        final char[] characters = new char[MOST_CHARACTERS];
        final Reading reading = new Reading();
        final int[] unfolded = new int[MOST_SONG_CALLS];
        int length;
        int unfoldedCalls;

        void add(char character) {
            if (length < characters.length) {
                characters[length] = character;
                length++;
            }
        }

        /** Reads as far as the text can be the beginning of a song. */
        int readLength() {
            reading.beginAnew();
            int index = 0;
            while (index < length && reading.accept(characters[index])) {
                index++;
            }
            return index;
        }

        boolean isSong() {
            return readLength() == length && reading.isWhole();
        }

        /** Writes down call by call what is known to be a song of at most MOST_SONG_CALLS calls. */
        void unfold() {
            int number = 0;
            int times = 1;
            int start = 0;
            unfoldedCalls = 0;
            for (int index = 0; index < length; index++) {
                char character = characters[index];
                if (isDigit(character)) {
                    number = 10 * number + (character - '0');
                } else if (character == '(') {
                    times = number;
                    start = unfoldedCalls;
                    number = 0;
                } else if (character == ')') {
                    repeat(start, times);
                } else if (isName(character)) {
                    unfoldName(character - 'a', Math.max(number, 1));
                    number = 0;
                }
            }
        }

        private void unfoldName(int parrot, int times) {
            for (int time = 0; time < times; time++) {
                unfoldCall(parrot);
            }
        }

        private void repeat(int start, int times) {
            int end = unfoldedCalls;
            for (int time = 1; time < times; time++) {
                for (int index = start; index < end; index++) {
                    unfoldCall(unfolded[index]);
                }
            }
        }

        private void unfoldCall(int parrot) {
            if (unfoldedCalls < unfolded.length) {
                unfolded[unfoldedCalls] = parrot;
                unfoldedCalls++;
            }
        }
    }

    private static boolean isDigit(char character) {
        return character >= '0' && character <= '9';
    }

    private static boolean isName(char character) {
        return character >= 'a' && character <= 'z';
    }

    /** How a song is read, character by character; a number of 0 stands for no number. */
    private static final class Reading {
        int number;
        int times;
        boolean isInParentheses;
        boolean hasPhrase;
        int calls;

        void beginAnew() {
            number = 0;
            times = 1;
            isInParentheses = false;
            hasPhrase = false;
            calls = 0;
        }

        /** Tells whether the character can follow those that were accepted, and goes on behind it if so. */
        boolean accept(char character) {
            if (isDigit(character)) {
                return acceptDigit(character - '0');
            }
            if (isName(character)) {
                return acceptName();
            }
            if (character == '(') {
                return acceptOpening();
            }
            return character == ')' && acceptClosing();
        }

        /** A 1 is no number yet, but more digits can follow it. */
        private boolean acceptDigit(int digit) {
            boolean isLeadingZero = number == 0 && digit == 0;
            if (isLeadingZero || number > LAST_DIGIT) {
                return false;
            }
            number = 10 * number + digit;
            return true;
        }

        private boolean acceptName() {
            if (number != 0 && number < LEAST_NUMBER) {
                return false;
            }
            calls += times * Math.max(number, 1);
            number = 0;
            hasPhrase = true;
            return true;
        }

        private boolean acceptOpening() {
            if (isInParentheses || number < LEAST_NUMBER) {
                return false;
            }
            times = number;
            number = 0;
            isInParentheses = true;
            hasPhrase = false;
            return true;
        }

        private boolean acceptClosing() {
            if (!isInParentheses || number != 0 || !hasPhrase) {
                return false;
            }
            times = 1;
            isInParentheses = false;
            return true;
        }

        boolean isWhole() {
            return hasPhrase && number == 0 && !isInParentheses;
        }
    }
}
