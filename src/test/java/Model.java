import java.util.ArrayDeque;
import java.util.ArrayList;
import java.util.Comparator;
import java.util.Deque;
import java.util.List;
import java.util.NoSuchElementException;
import java.util.TreeMap;
import java.util.function.IntUnaryOperator;
import java.util.regex.Matcher;
import java.util.regex.Pattern;

/** The document once more, with other means: counters in a list in the order of their changes, songs by patterns. */
public final class Model {
    private static final String NUMBER = "(?:[2-9]|[1-9][0-9])";
    private static final String SIMPLE = NUMBER + "?[a-z]";
    private static final Pattern SONG = Pattern.compile("(?:" + SIMPLE + "|" + NUMBER + "\\((?:" + SIMPLE + ")+\\))+");

    private record Counter(int parrot, int count, int surplus) {
    }

    private static final class Lists {
        /** The one that was changed longest ago is the first one. */
        final List<Counter> first = new ArrayList<>();
        final TreeMap<Integer, Integer> worn = new TreeMap<>();
        final TreeMap<Integer, Integer> trues = new TreeMap<>();
        int wear;

        Lists copy() {
            Lists copy = new Lists();
            copy.first.addAll(first);
            copy.worn.putAll(worn);
            copy.trues.putAll(trues);
            copy.wear = wear;
            return copy;
        }

        int calls() {
            return trues.values().stream().mapToInt(Integer::intValue).sum();
        }

        Counter counterOf(int parrot) {
            return first.stream().filter(c -> c.parrot == parrot).findFirst().orElse(null);
        }

        Counter least() {
            return first.stream().min(Comparator.comparingInt(Counter::count)).orElseThrow();
        }
    }

    private record State(Lists own, Lists aside, int capacity) {
    }

    private Lists own = new Lists();
    private Lists aside = null;
    private int capacity = 4;
    private String text = "";
    private final Deque<State> history = new ArrayDeque<>();

    private void record() {
        history.addLast(new State(own.copy(), aside == null ? null : aside.copy(), capacity));
        if (history.size() > 5) {
            history.removeFirst();
        }
    }

    private static void check(int parrot) {
        if (parrot < 0 || parrot > 25) {
            throw new IndexOutOfBoundsException();
        }
    }

    private static void refuseIf(boolean wrong, RuntimeException e) {
        if (wrong) {
            throw e;
        }
    }

    private void listen(int parrot) {
        Counter counter = own.counterOf(parrot);
        if (counter == null && own.first.size() < capacity + 1) {
            counter = new Counter(parrot, 0, 0);
        } else if (counter == null) {
            Counter least = own.least();
            own.first.remove(least);
            counter = new Counter(parrot, least.count, least.count);
        }
        own.first.remove(counter);
        own.first.add(new Counter(parrot, counter.count + 1, counter.surplus));
        if (own.worn.containsKey(parrot) || own.worn.size() < capacity) {
            own.worn.merge(parrot, 1, Integer::sum);
        } else {
            wearDown(1);
        }
        own.trues.merge(parrot, 1, Integer::sum);
    }

    private void wearDown(int less) {
        own.worn.replaceAll((parrot, count) -> count - less);
        own.worn.values().removeIf(count -> count <= 0);
        own.wear += less;
    }

    private static boolean isSong(String text) {
        return SONG.matcher(text).matches();
    }

    private static boolean isBeginning(String text) {
        Matcher matcher = SONG.matcher(text);
        return matcher.matches() || matcher.hitEnd();
    }

    private static String spelled(String song) {
        String names = Pattern.compile("(\\d+)([a-z])").matcher(song)
            .replaceAll(m -> m.group(2).repeat(Integer.parseInt(m.group(1))));
        return Pattern.compile("(\\d+)\\(([a-z]+)\\)").matcher(names)
            .replaceAll(m -> m.group(2).repeat(Integer.parseInt(m.group(1))));
    }

    private int floorOf(Lists lists) {
        return lists.first.size() == capacity + 1 ? lists.least().count : 0;
    }

    private int estimateBy(Lists lists, int parrot) {
        Counter counter = lists.counterOf(parrot);
        return counter == null ? floorOf(lists) : counter.count;
    }

    private static int sureBy(Lists lists, int parrot) {
        Counter counter = lists.counterOf(parrot);
        return counter == null ? 0 : counter.count - counter.surplus;
    }

    private int above(int permille, IntUnaryOperator measure) {
        refuseIf(permille < 0 || permille > 1000, new IllegalArgumentException());
        int bits = 0;
        for (int parrot = 0; parrot < 26; parrot++) {
            if (measure.applyAsInt(parrot) * 1000L > (long) permille * calls()) {
                bits += 1 << parrot;
            }
        }
        return bits;
    }

    private static Comparator<Counter> loudestFirst() {
        return Comparator.comparingInt(Counter::count).reversed().thenComparingInt(Counter::parrot);
    }

    public int hear(int parrot) {
        check(parrot);
        refuseIf(calls() >= 99999, new IllegalStateException());
        record();
        listen(parrot);
        return estimate(parrot);
    }

    public int hearSong() {
        refuseIf(!isSong(text), new IllegalArgumentException());
        String names = spelled(text);
        refuseIf(names.length() > 1000 || calls() + names.length() > 99999, new IllegalStateException());
        record();
        names.chars().forEach(name -> listen(name - 'a'));
        return calls();
    }

    public int empty(int newCapacity) {
        refuseIf(newCapacity < 1 || newCapacity > 9, new IllegalArgumentException());
        record();
        int previous = capacity;
        capacity = newCapacity;
        own = new Lists();
        aside = null;
        return previous;
    }

    public int putAside() {
        record();
        aside = own;
        own = new Lists();
        return aside.calls();
    }

    public int mergeIn() {
        refuseIf(aside == null || calls() + aside.calls() > 99999, new IllegalStateException());
        record();
        List<Counter> merged = new ArrayList<>();
        for (int parrot = 0; parrot < 26; parrot++) {
            if (own.counterOf(parrot) != null || aside.counterOf(parrot) != null) {
                int sum = estimateBy(own, parrot) + estimateBy(aside, parrot);
                merged.add(new Counter(parrot, sum, sum - sureBy(own, parrot) - sureBy(aside, parrot)));
            }
        }
        own.first.clear();
        merged.stream().sorted(loudestFirst()).limit(capacity + 1).forEach(own.first::add);
        own.first.sort(Comparator.comparingInt(Counter::parrot));
        aside.worn.forEach((parrot, count) -> own.worn.merge(parrot, count, Integer::sum));
        own.wear += aside.wear;
        if (own.worn.size() > capacity) {
            wearDown(own.worn.values().stream().sorted(Comparator.reverseOrder()).skip(capacity).findFirst().orElseThrow());
        }
        aside.trues.forEach((parrot, count) -> own.trues.merge(parrot, count, Integer::sum));
        aside = null;
        return calls();
    }

    public int append(char character) {
        refuseIf(text.length() >= 60, new IllegalStateException());
        text = text + character;
        return text.length();
    }

    public int clearText() {
        int length = text.length();
        text = "";
        return length;
    }

    public boolean isValid() {
        return isSong(text);
    }

    public int firstError() {
        refuseIf(isSong(text), new IllegalStateException());
        for (int index = 0; index < text.length(); index++) {
            if (!isBeginning(text.substring(0, index + 1))) {
                return index;
            }
        }
        return text.length();
    }

    public int callsOfSong() {
        refuseIf(!isSong(text), new IllegalArgumentException());
        return spelled(text).length();
    }

    public int undo() {
        refuseIf(history.isEmpty(), new IllegalStateException());
        State state = history.removeLast();
        own = state.own;
        aside = state.aside;
        capacity = state.capacity;
        return history.size();
    }

    public int counters() {
        return own.first.size();
    }

    public int estimate(int parrot) {
        check(parrot);
        return estimateBy(own, parrot);
    }

    public int sureCount(int parrot) {
        check(parrot);
        return sureBy(own, parrot);
    }

    public int surplus(int parrot) {
        check(parrot);
        Counter counter = own.counterOf(parrot);
        refuseIf(counter == null, new NoSuchElementException());
        return counter.surplus;
    }

    public int floor() {
        return floorOf(own);
    }

    public int nextTakenOver() {
        refuseIf(own.first.size() < capacity + 1, new NoSuchElementException());
        return own.least().parrot;
    }

    public int loudest(int position) {
        refuseIf(position < 0, new IllegalArgumentException());
        return own.first.stream().sorted(loudestFirst()).skip(position).findFirst()
            .orElseThrow(NoSuchElementException::new).parrot;
    }

    public int surelyAbove(int permille) {
        return above(permille, this::sureCount);
    }

    public int perhapsAbove(int permille) {
        return above(permille, this::estimate);
    }

    public int trulyAbove(int permille) {
        return above(permille, this::trueCount);
    }

    public int wornCounters() {
        return own.worn.size();
    }

    public int wornCount(int parrot) {
        check(parrot);
        return own.worn.getOrDefault(parrot, 0);
    }

    public int aboveFloor(int parrot) {
        return estimate(parrot) - floor();
    }

    public int wear() {
        return own.wear;
    }

    public int capacity() {
        return capacity;
    }

    public int trueCount(int parrot) {
        check(parrot);
        return own.trues.getOrDefault(parrot, 0);
    }

    public int calls() {
        return own.calls();
    }

    public int callsByCounters() {
        return own.first.stream().mapToInt(Counter::count).sum();
    }

    public int parrotsHeard() {
        return own.trues.size();
    }

    public int greatestError() {
        int greatest = Integer.MIN_VALUE;
        for (int parrot = 0; parrot < 26; parrot++) {
            greatest = Math.max(greatest, estimate(parrot) - trueCount(parrot));
        }
        return greatest;
    }

    public boolean hasAside() {
        return aside != null;
    }

    public double loudestShare() {
        return calls() == 0 ? 0.0 : (double) own.first.stream().mapToInt(Counter::count).max().orElseThrow() / calls();
    }

    public int historySize() {
        return history.size();
    }
}
