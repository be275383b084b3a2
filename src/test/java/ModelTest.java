import java.lang.reflect.InvocationTargetException;
import java.lang.reflect.Method;
import java.util.ArrayList;
import java.util.HashMap;
import java.util.List;
import java.util.Map;
import java.util.Random;

/** All promises: long runs of calls, the same ones every time, must be answered as the model answers them. */
final class ModelTest {
    private static final int CALLS = 512;
    private static final int RUNS = 600;
    private static final String[] SIGNS = {"a", "b", "c", "x", "y", "z", "(", ")", "0", "1", "2", "3", "9", "A", " "};

    private final ParrotCounts program = new ParrotCounts();
    private final Model model = new Model();
    private final List<String> run = new ArrayList<>();
    private final Map<String, Method> methods = new HashMap<>();
    private final Random random;
    private final int parrots;
    private boolean isSound = true;

    private ModelTest(int seed) {
        random = new Random(seed);
        parrots = seed % 3 == 0 ? 26 : 4 + seed % 9;
    }

    static void run() {
        Checks.test("promises 1 to 35: mixed runs are answered as by the model", () -> {
            for (int seed = 0; seed < RUNS; seed++) {
                new ModelTest(seed).mixedRun();
            }
        });
        Checks.test("promises 2, 3 and 6: runs near 99999 calls are answered as by the model", () -> {
            for (int seed = 0; seed < RUNS / 20; seed++) {
                new ModelTest(seed).fullRun();
            }
        });
    }

    private boolean goesOn() {
        return isSound && run.size() < CALLS;
    }

    private void call(String name, Object... arguments) {
        if (!goesOn()) {
            return;
        }
        run.add(name + List.of(arguments));
        Object due = answer(model, name, arguments);
        Object answer = answer(program, name, arguments);
        if (!due.equals(answer)) {
            isSound = false;
            Checks.same(due, answer, "the last call of " + run);
        }
    }

    private Object answer(Object target, String name, Object... arguments) {
        try {
            return methodOf(target, name).invoke(target, arguments);
        } catch (InvocationTargetException e) {
            return e.getCause().getClass();
        } catch (IllegalAccessException e) {
            return e.toString();
        }
    }

    private Method methodOf(Object target, String name) {
        return methods.computeIfAbsent(target.getClass().getName() + "." + name, key -> {
            for (Method method : target.getClass().getDeclaredMethods()) {
                if (method.getName().equals(name)) {
                    return method;
                }
            }
            throw new IllegalStateException("no method " + key);
        });
    }

    private void mixedRun() {
        call("empty", 1 + random.nextInt(5));
        while (goesOn()) {
            modify(random.nextInt(20));
            for (int i = random.nextInt(6); i > 0; i--) {
                ask(random.nextInt(24));
            }
        }
    }

    private void modify(int kind) {
        if (kind < 10) {
            call("hear", someParrot());
        } else if (kind < 13) {
            write(random.nextInt(3) == 0 ? someSigns() : someSong());
        } else if (kind < 15) {
            call("hearSong");
        } else if (kind < 16) {
            call("putAside");
        } else if (kind < 18) {
            call("mergeIn");
        } else if (kind < 19) {
            call("undo");
        } else if (random.nextInt(5) == 0) {
            call("empty", random.nextInt(12) - 1);
        }
    }

    private void ask(int kind) {
        switch (kind) {
            case 0 -> call("counters");
            case 1 -> call("estimate", someParrot());
            case 2 -> call("sureCount", someParrot());
            case 3 -> call("surplus", someParrot());
            case 4 -> call("floor");
            case 5 -> call("nextTakenOver");
            case 6 -> call("loudest", random.nextInt(9) - 1);
            case 7 -> call("surelyAbove", somePermille());
            case 8 -> call("perhapsAbove", somePermille());
            case 9 -> call("trulyAbove", somePermille());
            case 10 -> call("wornCounters");
            case 11 -> call("wornCount", someParrot());
            case 12 -> call("aboveFloor", someParrot());
            case 13 -> call("wear");
            case 14 -> call("trueCount", someParrot());
            case 15 -> call("calls");
            case 16 -> call("callsByCounters");
            case 17 -> call("parrotsHeard");
            case 18 -> call("greatestError");
            case 19 -> call("hasAside");
            case 20 -> call("loudestShare");
            case 21 -> call("historySize");
            case 22 -> call("capacity");
            default -> askText();
        }
    }

    private void askText() {
        call("isValid");
        call("firstError");
        call("callsOfSong");
    }

    private int someParrot() {
        int any = random.nextInt(60);
        if (any < 2) {
            return any == 0 ? -1 : 26;
        }
        return Math.min(random.nextInt(parrots), random.nextInt(parrots));
    }

    private int somePermille() {
        return random.nextInt(4) == 0 ? random.nextInt(1010) - 4 : random.nextInt(300);
    }

    private void write(String text) {
        if (random.nextInt(8) != 0) {
            call("clearText");
        }
        for (char character : text.toCharArray()) {
            call("append", character);
        }
        askText();
    }

    private String someSigns() {
        StringBuilder signs = new StringBuilder();
        for (int i = random.nextInt(8); i > 0; i--) {
            signs.append(SIGNS[random.nextInt(SIGNS.length)]);
        }
        return signs.toString();
    }

    private String someSong() {
        StringBuilder song = new StringBuilder();
        for (int i = random.nextInt(3); i >= 0; i--) {
            if (random.nextInt(3) == 0) {
                song.append(2 + random.nextInt(20)).append('(').append(somePhrase()).append(somePhrase()).append(')');
            } else {
                song.append(somePhrase());
            }
        }
        return song.toString();
    }

    private String somePhrase() {
        String name = String.valueOf((char) ('a' + random.nextInt(parrots)));
        return random.nextInt(2) == 0 ? name : (2 + random.nextInt(random.nextInt(6) == 0 ? 98 : 10)) + name;
    }

    private void fullRun() {
        write("10(" + (20 + random.nextInt(20)) + "a20b" + "9cd".repeat(1 + random.nextInt(3)) + ")");
        int aside = random.nextInt(100);
        for (int i = 0; i < 200; i++) {
            call("hearSong");
            if (i == aside) {
                call("putAside");
            }
        }
        for (int i = 0; i < 100; i++) {
            call("calls");
            modify(random.nextInt(20));
            ask(random.nextInt(24));
        }
    }
}
