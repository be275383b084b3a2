/** Sentences of the term on the text: what is a song, and where another text has its first error. */
final class TextSentences {
    private static final String TEXT = "TEXT";
    private static final String NUMBER = "or a number from 2 to 99 without leading zeros and a name (so many calls of this "
        + "parrot)";
    private static final String PARENTHESES = "or a number from 2 to 99, \"(\", one or more phrases without \"(\" in them, "
        + "and \")\" (so many times what is in the parentheses).";
    private static final String FIRST_ERROR = "The first error of a buffer that is not a song is the index of the first "
        + "character that cannot follow the characters in front of it in any song, or the length of the buffer if there is "
        + "no such character.";

    private TextSentences() {
    }

    static void run() {
        Document.test(TEXT, "There is a text buffer of at most 60 characters, initially empty.", TextSentences::buffer);
        Document.test(TEXT, "A song consists of one or more phrases.", TextSentences::onePhraseOrMore);
        Document.test(TEXT, "A phrase is a name (\"a\" to \"z\")", TextSentences::names);
        Document.test(TEXT, NUMBER, "2 to 99", TextSentences::numbers);
        Document.test(TEXT, NUMBER, "leading zeros", TextSentences::leadingZeros);
        Document.test(TEXT, NUMBER, "so many calls", TextSentences::callsOfNumbers);
        Document.test(TEXT, PARENTHESES, "2 to 99", TextSentences::numbersOfParentheses);
        Document.test(TEXT, PARENTHESES, "one or more phrases", TextSentences::phrasesInParentheses);
        Document.test(TEXT, PARENTHESES, "without \"(\" in them", TextSentences::noParenthesesInside);
        Document.test(TEXT, PARENTHESES, "and \")\"", TextSentences::closed);
        Document.test(TEXT, PARENTHESES, "so many times", TextSentences::callsOfParentheses);
        Document.test(TEXT, FIRST_ERROR, "of a name", TextSentences::errorAtName);
        Document.test(TEXT, FIRST_ERROR, "of a digit", TextSentences::errorAtDigit);
        Document.test(TEXT, FIRST_ERROR, "of a parenthesis", TextSentences::errorAtParenthesis);
        Document.test(TEXT, FIRST_ERROR, "of another character", TextSentences::errorAtOther);
        Document.test(TEXT, FIRST_ERROR, "the first of several", TextSentences::firstOfSeveral);
        Document.test(TEXT, FIRST_ERROR, "no such character", TextSentences::errorAtEnd);
        Document.test(TEXT, FIRST_ERROR, "a full buffer", TextSentences::errorInFullBuffer);
    }

    private static void song(String text, int calls) {
        ParrotCounts x = Given.withText(text);
        Checks.same(true, x.isValid(), "valid: " + text);
        Checks.same(calls, x.callsOfSong(), "calls of " + text);
    }

    private static void noSong(String text, int firstError) {
        ParrotCounts x = Given.withText(text);
        Checks.same(false, x.isValid(), "valid: " + text);
        Checks.same(firstError, x.firstError(), "first error of " + text);
    }

    private static void buffer() {
        ParrotCounts x = new ParrotCounts();
        Checks.same(0, x.clearText(), "initially");
        for (int length = 1; length <= 60; length++) {
            Checks.same(length, x.append('z'), "length");
        }
        Checks.fails(IllegalStateException.class, () -> x.append('z'), "one more");
        Checks.same(60, x.callsOfSong(), "calls");
    }

    private static void onePhraseOrMore() {
        noSong("", 0);
        song("a", 1);
        song("ab", 2);
        song("2(a)", 2);
        song("2(a)3(b)4cd", 10);
        song("z".repeat(60), 60);
    }

    private static void names() {
        for (char name = 'a'; name <= 'z'; name++) {
            song(String.valueOf(name), 1);
        }
        for (char other : new char[] {'a' - 1, 'z' + 1, 'A', 'Z'}) {
            noSong(String.valueOf(other), 0);
            noSong("2" + other, 1);
        }
    }

    private static void numbers() {
        noSong("0a", 0);
        noSong("1a", 1);
        for (int number = 2; number <= 99; number++) {
            song(number + "a", number);
        }
        noSong("100a", 2);
        noSong("199a", 2);
        noSong("990a", 2);
    }

    private static void leadingZeros() {
        noSong("02a", 0);
        noSong("099a", 0);
        noSong("a02b", 1);
        noSong("2(02a)", 2);
        noSong("02(a)", 0);
        song("20a", 20);
        song("90(a)", 90);
    }

    private static void callsOfNumbers() {
        ParrotCounts x = Given.sung(9, "2a99b10zc");
        Checks.same(2, x.trueCount(0), "a");
        Checks.same(99, x.trueCount(1), "b");
        Checks.same(10, x.trueCount(25), "z");
        Checks.same(1, x.trueCount(2), "c, without a number");
    }

    private static void numbersOfParentheses() {
        noSong("(a)", 0);
        noSong("0(a)", 0);
        noSong("1(a)", 1);
        for (int number = 2; number <= 99; number++) {
            song(number + "(a)", number);
        }
        noSong("100(a)", 2);
        noSong("a(a)", 1);
        noSong("2(a)(a)", 4);
    }

    private static void phrasesInParentheses() {
        noSong("2()", 2);
        noSong("2(3)", 3);
        noSong("2(a3)", 4);
        noSong("2(a)2()", 6);
        song("2(a)", 2);
        song("2(3a)", 6);
        song("2(" + "a".repeat(57) + ")", 114);
    }

    private static void noParenthesesInside() {
        noSong("2(2(a))", 3);
        noSong("2((a))", 2);
        noSong("2(a2(b))", 4);
        noSong("2(2a(b))", 4);
        song("2(a)2(b)", 4);
    }

    private static void closed() {
        noSong("2(a", 3);
        noSong("2(a)2(b", 7);
        noSong("a)", 1);
        noSong(")", 0);
        noSong("2(a))", 4);
        noSong("2)", 1);
        noSong("2a)", 2);
    }

    private static void callsOfParentheses() {
        song("3(2ab)", 9);
        song("99(99z)99z", 99 * 99 + 99);
        ParrotCounts x = Given.sung(9, "a3(2ab)99(c)d2(e)");
        int[] due = {7, 3, 99, 1, 2};
        for (int parrot = 0; parrot < due.length; parrot++) {
            Checks.same(due[parrot], x.trueCount(parrot), "parrot " + parrot);
        }
        ParrotCounts y = Given.sung(1, "2(abc)");
        // c takes over that of a with 1, a that of b with 1, b that of c with 2, c that of a with 2.
        Checks.same(2, y.surplus(2), "c, as the calls of both times come one after the other");
        Checks.same(2, y.surplus(1), "b");
    }

    private static void errorAtName() {
        noSong("1a", 1);
        noSong("b1a", 2);
        noSong("2(1a)", 3);
        noSong("2(a)1a", 5);
    }

    private static void errorAtDigit() {
        noSong("0", 0);
        noSong("00", 0);
        noSong("a0", 1);
        noSong("2(0", 2);
        noSong("2(a)0", 4);
        noSong("100", 2);
        noSong("111", 2);
        noSong("2(990", 4);
    }

    private static void errorAtParenthesis() {
        noSong("(", 0);
        noSong("a(", 1);
        noSong("1(", 1);
        noSong("2a(", 2);
        noSong("2(2(", 3);
        noSong(")", 0);
        noSong("2(a2)", 4);
        noSong("22)", 2);
    }

    private static void errorAtOther() {
        for (char other : new char[] {' ', '.', '/', ':', '*', '\n', '\0', (char) 0x663, (char) 0x430, (char) 0xffff}) {
            noSong(other + "a", 0);
            noSong("a" + other, 1);
            noSong("2(a" + other + ")", 3);
            noSong("12" + other + "a", 2);
        }
    }

    private static void firstOfSeveral() {
        noSong("0a0", 0);
        noSong("a)(", 1);
        noSong("2()0", 2);
        noSong("1a1a", 1);
        noSong("2(a#", 3);
    }

    private static void errorAtEnd() {
        noSong("", 0);
        noSong("1", 1);
        noSong("9", 1);
        noSong("99", 2);
        noSong("a1", 2);
        noSong("2(", 2);
        noSong("2(1", 3);
        noSong("2(99", 4);
        noSong("2(a", 3);
        noSong("2(a)3", 5);
    }

    private static void errorInFullBuffer() {
        noSong("a".repeat(59) + "0", 59);
        noSong("a".repeat(59) + "9", 60);
        noSong("a".repeat(58) + "9(", 60);
        noSong("9(" + "a".repeat(58), 60);
    }
}
