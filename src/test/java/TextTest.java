/** Promises 7 to 11. */
final class TextTest {
    private TextTest() {
    }

    static void run() {
        Checks.test("promise 7: append answers the length", TextTest::append);
        Checks.test("promise 7: append refuses character 61", TextTest::appendFull);
        Checks.test("promise 7: append takes any character", TextTest::appendAny);
        Checks.test("promise 8: clearText answers the length", TextTest::clearText);
        Checks.test("promise 9: isValid knows songs", TextTest::songs);
        Checks.test("promise 9: isValid knows what is no song", TextTest::noSongs);
        Checks.test("promise 10: firstError is the first character that cannot follow", TextTest::firstError);
        Checks.test("promise 10: firstError is the length where more could follow", TextTest::firstErrorAtEnd);
        Checks.test("promise 10: firstError refuses a song", TextTest::firstErrorOfSong);
        Checks.test("promise 11: callsOfSong counts", TextTest::callsOfSong);
        Checks.test("promise 11: callsOfSong refuses what is no song", TextTest::callsOfNoSong);
        Checks.test("promises 7 to 11: the text is no part of a state", TextTest::noState);
    }

    private static void append() {
        ParrotCounts x = new ParrotCounts();
        Checks.same(1, x.append('2'), "one character");
        Checks.same(2, x.append('a'), "two characters");
        Checks.same(true, x.isValid(), "they stand in their order");
        Checks.same(2, x.callsOfSong(), "two calls of a");
    }

    private static void appendFull() {
        ParrotCounts x = Given.withText("a".repeat(59));
        Checks.same(60, x.append('b'), "character 60");
        Checks.fails(IllegalStateException.class, () -> x.append('c'), "character 61");
        Checks.fails(IllegalStateException.class, () -> x.append('!'), "again");
        Checks.same(60, x.callsOfSong(), "the buffer is as before");
        x.hearSong();
        Checks.same(1, x.trueCount(1), "the last one is b");
        Checks.same(60, x.clearText(), "length");
        Checks.same(1, x.append('c'), "a first character again");
    }

    private static void appendAny() {
        ParrotCounts x = new ParrotCounts();
        char[] others = {'\0', ' ', '`', '{', '/', ':', '-', '\n', 'A', 'Z', (char) 233, (char) 0x661, (char) 0xff41, (char) 0xffff};
        for (char other : others) {
            Checks.same(1, x.append(other), "length with " + (int) other);
            Checks.same(0, x.firstError(), "first error with " + (int) other);
            x.clearText();
            x.append('a');
            Checks.same(2, x.append(other), "length with a and " + (int) other);
            Checks.same(1, x.firstError(), "first error with a and " + (int) other);
            x.clearText();
        }
    }

    private static void clearText() {
        ParrotCounts x = new ParrotCounts();
        Checks.same(0, x.clearText(), "a new object");
        Given.write(x, "2(a");
        Checks.same(3, x.clearText(), "three characters");
        Checks.same(0, x.clearText(), "none any more");
        x.append('b');
        Checks.same(1, x.callsOfSong(), "nothing of the old text is left");
    }

    private static void songs() {
        String[] songs = {"a", "z", "az", "2a", "9z", "10a", "19m", "99z", "2(a)", "99(99z)", "2(a)b", "b2(a)",
            "2(a)3(b)", "10(2a3b)", "2(10a11b99c)d12e", "20a30b40(c)", "a".repeat(60), "2(" + "q".repeat(57) + ")"};
        for (String song : songs) {
            Checks.same(true, Given.withText(song).isValid(), "valid: " + song);
        }
    }

    private static void noSongs() {
        String[] texts = {"", "0a", "1a", "01a", "02a", "00", "100a", "2", "99", "a2", "(a)", "1(a)", "2()", "2(a", "2(2)",
            "2(a2)", "a)", "2(a))", "2(2(a))", "2(a2(b))", "2((a))", "A", "a b", "2(a)(b)", "2 a", "22", "2(a)2", "2(", "a2()", "2(a)3()"};
        for (String text : texts) {
            Checks.same(false, Given.withText(text).isValid(), "valid: " + text);
        }
    }

    private static void firstErrorIs(int due, String text) {
        Checks.same(due, Given.withText(text).firstError(), "first error of " + text);
    }

    private static void firstError() {
        firstErrorIs(0, "0a");
        firstErrorIs(1, "1a");
        firstErrorIs(1, "1(a)");
        firstErrorIs(2, "100a");
        firstErrorIs(2, "999");
        firstErrorIs(0, "(a)");
        firstErrorIs(1, "a(b)");
        firstErrorIs(2, "2()");
        firstErrorIs(3, "a2()");
        firstErrorIs(6, "2(a)3()");
        firstErrorIs(3, "2(2)");
        firstErrorIs(3, "2(3(a))");
        firstErrorIs(2, "2((a))");
        firstErrorIs(4, "2(ab(c))");
        firstErrorIs(1, "a)");
        firstErrorIs(4, "2(a))");
        firstErrorIs(4, "2(a)(b)");
        firstErrorIs(4, "2(a)0b");
        firstErrorIs(2, "2(0a)");
        firstErrorIs(3, "2(1a)");
        firstErrorIs(0, "A0(");
        firstErrorIs(1, "a b c");
        firstErrorIs(59, "a".repeat(59) + "0");
    }

    private static void firstErrorAtEnd() {
        firstErrorIs(0, "");
        firstErrorIs(1, "1");
        firstErrorIs(1, "2");
        firstErrorIs(2, "10");
        firstErrorIs(2, "a9");
        firstErrorIs(2, "2(");
        firstErrorIs(3, "2(1");
        firstErrorIs(3, "2(a");
        firstErrorIs(7, "2(a)2(b");
        firstErrorIs(60, "2(" + "a".repeat(58));
        firstErrorIs(60, "a".repeat(58) + "2(");
    }

    private static void firstErrorOfSong() {
        for (String song : new String[] {"a", "2a", "2(a)", "a".repeat(60)}) {
            ParrotCounts x = Given.withText(song);
            Checks.fails(IllegalStateException.class, x::firstError, "first error of " + song);
            Checks.same(song.length(), x.clearText(), "length");
        }
    }

    private static void callsAre(int due, String song) {
        Checks.same(due, Given.withText(song).callsOfSong(), "calls of " + song);
    }

    private static void callsOfSong() {
        callsAre(1, "a");
        callsAre(2, "aa");
        callsAre(10, "10a");
        callsAre(99, "99z");
        callsAre(6, "3(ab)");
        callsAre(27, "3(2ab)9(bc)");
        callsAre(12, "a3(bcd)2e");
        callsAre(1001, Given.THOUSAND + "a");
        callsAre(99 * (18 * 99 + 1), "99(" + "99a".repeat(18) + "b" + ")");
    }

    private static void callsOfNoSong() {
        for (String text : new String[] {"", "2", "2(a", "1a", "a0", "x)"}) {
            ParrotCounts x = Given.withText(text);
            Checks.fails(IllegalArgumentException.class, x::callsOfSong, "calls of " + text);
            Checks.same(text.length(), x.clearText(), "length");
        }
    }

    private static void noState() {
        ParrotCounts x = Given.withText("2a");
        x.clearText();
        x.append('b');
        x.callsOfSong();
        Checks.same(0, x.historySize(), "nothing of this is a modification");
        x.hearSong();
        Given.write(x, "3c");
        x.undo();
        Checks.same(3, x.callsOfSong(), "undo leaves the text alone");
    }
}
