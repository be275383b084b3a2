/** How ParrotCounts is used; README.md shows it, and what each line prints stands behind it. */
public final class Example {
    private Example() {
    }

    public static void main(String[] args) {
        ParrotCounts counts = new ParrotCounts();
        System.out.println(counts.empty(2));          // 4: the previous capacity; now it is 2
        System.out.println(counts.hear(0));           // 1: "a" is heard, and this is its estimate afterwards

        for (char character : "3(ab)2c".toCharArray()) {
            counts.append(character);
        }
        System.out.println(counts.callsOfSong());     // 8: a b a b a b c c
        System.out.println(counts.hearSong());        // 9: the number of calls that have been heard so far

        System.out.println(counts.hear(3));           // 3: "d" takes over the counter of "c"
        System.out.println(counts.surplus(3));        // 2: the count that the counter had
        System.out.println(counts.sureCount(3));      // 1: its count minus its surplus
        System.out.println(counts.estimate(2));       // 3: "c" has no counter, and the floor is 3
        System.out.println(counts.trueCount(2));      // 2: the number of its calls
        System.out.println(counts.loudest(0));        // 0: "a" has the greatest count
        System.out.println(counts.nextTakenOver());   // 1: "b" has the least count, and was changed before "d"
        System.out.println(counts.surelyAbove(300));  // 1: the bit of "a", with 4 of 10 calls for sure
        System.out.println(counts.perhapsAbove(300)); // 1: no other parrot may have made more than 3 of them
        System.out.println(counts.wornCount(0));      // 1: in the second list, "a" was worn down from 4
        System.out.println(counts.wear());            // 3: how often that has happened

        System.out.println(counts.putAside());        // 10: the calls that are put aside; new lists are begun
        System.out.println(counts.hear(25));          // 1: the only parrot of the new lists
        System.out.println(counts.mergeIn());         // 11: the calls of both
        System.out.println(counts.undo());            // 4: the states that remain; the first lists are aside again
        System.out.println(counts.calls());           // 1: that of "z"

        try {
            counts.hear(26);
        } catch (IndexOutOfBoundsException e) {
            System.out.println(counts.calls());       // 1: a method that throws an exception changes nothing
        }
    }
}
