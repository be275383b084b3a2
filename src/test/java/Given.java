/** Objects as the tests need them, and views of all that can be asked of one. */
final class Given {
    static final int PARROTS = 26;

    /** A song of 1000 calls, 990 of "a" and 10 of "b". */
    static final String THOUSAND = "10(99ab)";

    private Given() {
    }

    static ParrotCounts withCapacity(int capacity) {
        ParrotCounts x = new ParrotCounts();
        x.empty(capacity);
        return x;
    }

    static ParrotCounts withText(String text) {
        return write(new ParrotCounts(), text);
    }

    static ParrotCounts write(ParrotCounts x, String text) {
        x.clearText();
        for (char character : text.toCharArray()) {
            x.append(character);
        }
        return x;
    }

    static int sing(ParrotCounts x, String song) {
        return write(x, song).hearSong();
    }

    /** The song is left in the text buffer. */
    static ParrotCounts sung(int capacity, String song) {
        ParrotCounts x = withCapacity(capacity);
        sing(x, song);
        return x;
    }

    static ParrotCounts withThousands(int thousands) {
        ParrotCounts x = withText(THOUSAND);
        for (int i = 0; i < thousands; i++) {
            x.hearSong();
        }
        return x;
    }

    /** 99999 calls. */
    static ParrotCounts full() {
        ParrotCounts x = withThousands(99);
        sing(x, "9(99a12b)");
        return x;
    }

    /** Both lists of both listeners are full, and the history holds more than one kind of state. */
    static ParrotCounts busy() {
        ParrotCounts x = withCapacity(2);
        sing(x, "3ab2c2d");
        x.putAside();
        sing(x, "2e3(fa)b");
        x.hear(7);
        return x;
    }

    /** All that can be asked but for the history, in some 170 calls that change nothing. */
    static String view(ParrotCounts x) {
        StringBuilder view = new StringBuilder();
        view.append(x.counters()).append(' ').append(x.floor()).append(' ').append(x.wornCounters());
        view.append(' ').append(x.wear()).append(' ').append(x.capacity()).append(' ').append(x.calls());
        view.append(' ').append(x.callsByCounters()).append(' ').append(x.parrotsHeard());
        view.append(' ').append(x.greatestError()).append(' ').append(x.hasAside()).append(' ');
        view.append(x.loudestShare()).append(' ').append(x.isValid());
        view.append(x.isValid() ? " calls of song " + x.callsOfSong() : " error at " + x.firstError());
        view.append(" next ").append(orWhat(x::nextTakenOver));
        for (int parrot = 0; parrot < PARROTS; parrot++) {
            int asked = parrot;
            view.append(" | ").append(x.estimate(parrot)).append(' ').append(x.sureCount(parrot));
            view.append(' ').append(orWhat(() -> x.surplus(asked))).append(' ').append(x.wornCount(parrot));
            view.append(' ').append(x.aboveFloor(parrot)).append(' ').append(x.trueCount(parrot));
        }
        return view.toString();
    }

    private static String orWhat(java.util.concurrent.Callable<?> call) {
        try {
            return String.valueOf(call.call());
        } catch (Exception e) {
            return e.getClass().getSimpleName();
        }
    }

    /** The view of what is aside too, which is merged in for it. */
    static String deepView(ParrotCounts x) {
        String view = view(x);
        if (!x.hasAside()) {
            return view;
        }
        x.mergeIn();
        return view + " || " + view(x);
    }

    /** What the text answers, also with one more character, and the calls of its song; the lists are lost by it. */
    static String textView(ParrotCounts x) {
        StringBuilder view = new StringBuilder();
        for (String more : new String[] {"", ")", "z"}) {
            if (!more.isEmpty()) {
                view.append(orWhat(() -> x.append(more.charAt(0)))).append(' ');
            }
            view.append(x.isValid()).append(' ').append(orWhat(x::firstError)).append(' ');
            x.empty(1);
            view.append(orWhat(x::callsOfSong)).append(' ').append(orWhat(x::hearSong));
            for (int parrot = 0; parrot < PARROTS; parrot++) {
                view.append(' ').append(x.trueCount(parrot)).append(' ').append(x.estimate(parrot));
            }
            view.append(" | ");
        }
        return view.append(x.clearText()).toString();
    }
}
