/** The boundary cases of promises 15 to 20, 22, 25, 28, 34, 37, 38, 45: questions about PLACES, PARTS and ENDS. */
public final class PartEdgesTest {
    private static final int NONE = Edges.NONE;
    private static final int REFUSED = Edges.REFUSED;
    private static final int MAX = Edges.MAX;
    private static final int MIN = Edges.MIN;
    private static final String ALL_A = "a".repeat(120);

    private PartEdgesTest() {
    }

    public static void main(String[] args) throws IllegalAccessException {
        Edges.run(PartEdgesTest.class, 15, 16, 17, 18, 19, 20, 22, 25, 28, 34, 37, 38, 45);
    }

    // ---- promise 15: letter ----

    static void promise15Places() {
        Edges.placeBounds(WordRuns::letter);
    }

    static void promise15TheFirstAndTheLastLetter() {
        WordRuns x = Words.of("zba");
        Check.due("letter(0)", x.letter(0), 25);
        Check.due("letter(2)", x.letter(2), 0);
        Check.due("letter(3)", x.letter(3), NONE);
        Check.due("letter(-1)", x.letter(-1), NONE);
    }

    static void promise15WithoutLetters() {
        Check.due("letter(0)", new WordRuns().letter(0), NONE);
    }

    static void promise15Of120Letters() {
        WordRuns x = Words.of(Edges.FULL);
        Check.due("letter(119)", x.letter(119), 2);
        Check.due("letter(120)", x.letter(120), NONE);
    }

    // what a longer WORD held does not come back
    static void promise15BehindAShorterWord() {
        WordRuns x = Words.of("abc");
        x.drop(0);
        Check.due("letter(1)", x.letter(1), 2);
        Check.due("letter(2)", x.letter(2), NONE);
    }

    // ---- promise 16: border ----

    static void promise16PartBounds() {
        Edges.partBounds((x, i, j) -> x.border(i, j, NONE), true, NONE);
        Edges.partBounds((x, i, j) -> x.border(i, j, 0), true, NONE);
    }

    // "shorter than it, 1 letter at least"
    static void promise16ShorterThanItOneLetterAtLeast() {
        WordRuns x = Words.of("aaaa");
        Edges.row((y, k) -> y.border(0, 4, k), x, new int[] {3, 2, 1}, REFUSED);
        Check.due("how many", x.border(0, 4, NONE), 3);
        Edges.row((y, k) -> y.border(0, 2, k), Words.of("ab"), new int[] {}, REFUSED);
        Edges.row((y, k) -> y.border(0, 2, k), Words.of("aa"), new int[] {1}, REFUSED);
    }

    static void promise16OfAnEmptyPartAndOfOneLetter() {
        WordRuns x = Words.of("aaaa");
        Check.due("how many of none", x.border(2, 2, NONE), 0);
        Check.due("k 0 of none", x.border(2, 2, 0), REFUSED);
        Check.due("how many at the end", x.border(4, 4, NONE), 0);
        Check.due("how many of one letter", x.border(3, 4, NONE), 0);
        Check.due("k 0 of one letter", x.border(3, 4, 0), REFUSED);
    }

    // "the longest first"
    static void promise16TheLongestFirst() {
        Edges.row((x, k) -> x.border(0, 7, k), Words.of("abaabaa"), new int[] {4, 1}, REFUSED);
    }

    // of the PART alone, whatever stands beside it
    static void promise16OfThePartAlone() {
        WordRuns x = Words.of("aabaa");
        Edges.row((y, k) -> y.border(1, 4, k), x, new int[] {1}, REFUSED);
        Edges.row((y, k) -> y.border(0, 5, k), x, new int[] {2, 1}, REFUSED);
    }

    // "k NONE: how many", "NONE .. for k below NONE"
    static void promise16BelowNone() {
        WordRuns x = Words.of("aaa");
        Check.due("k NONE", x.border(0, 3, NONE), 2);
        Check.due("k -2", x.border(0, 3, -2), NONE);
        Check.due("k MIN", x.border(0, 3, MIN), NONE);
        Check.due("k -2 of none", x.border(0, 0, -2), NONE);
    }

    // "Where NONE and another answer fit, it is NONE"
    static void promise16NoneAheadOfNotSoMany() {
        WordRuns x = Words.of("aaa");
        Check.due("no PART, k too large", x.border(0, 4, 7), NONE);
        Check.due("no PART, k MAX", x.border(2, 1, MAX), NONE);
        Check.due("no PART, how many", x.border(4, 4, NONE), NONE);
    }

    static void promise16WithoutLetters() {
        WordRuns x = new WordRuns();
        Check.due("how many", x.border(0, 0, NONE), 0);
        Check.due("k 0", x.border(0, 0, 0), REFUSED);
        Check.due("no PART", x.border(0, 1, NONE), NONE);
    }

    static void promise16Of120Letters() {
        WordRuns x = Words.of(ALL_A);
        Check.due("how many", x.border(0, 120, NONE), 119);
        Check.due("k 0", x.border(0, 120, 0), 119);
        Check.due("k 118", x.border(0, 120, 118), 1);
        Check.due("k 119", x.border(0, 120, 119), REFUSED);
    }

    // ---- promise 17: period ----

    static void promise17PartBounds() {
        Edges.partBounds((x, i, j) -> x.period(i, j, NONE), true, NONE);
        Edges.partBounds((x, i, j) -> x.period(i, j, 0), true, NONE);
    }

    // "p, 1 to its length"
    static void promise17OneToItsLength() {
        Edges.row((x, k) -> x.period(0, 4, k), Words.of("aaaa"), new int[] {1, 2, 3, 4}, REFUSED);
        Edges.row((x, k) -> x.period(0, 4, k), Words.of("abcd"), new int[] {4}, REFUSED);
        Edges.row((x, k) -> x.period(0, 3, k), Words.of("aab"), new int[] {3}, REFUSED);
    }

    static void promise17OfAnEmptyPartAndOfOneLetter() {
        WordRuns x = Words.of("aaaa");
        Check.due("how many of none", x.period(2, 2, NONE), 0);
        Check.due("k 0 of none", x.period(2, 2, 0), REFUSED);
        Check.due("how many of one letter", x.period(3, 4, NONE), 1);
        Check.due("k 0 of one letter", x.period(3, 4, 0), 1);
        Check.due("k 1 of one letter", x.period(3, 4, 1), REFUSED);
    }

    // "rising"
    static void promise17Rising() {
        Edges.row((x, k) -> x.period(0, 7, k), Words.of("abaabaa"), new int[] {3, 6, 7}, REFUSED);
    }

    static void promise17OfThePartAlone() {
        Edges.row((x, k) -> x.period(1, 5, k), Words.of("babab"), new int[] {2, 4}, REFUSED);
        Edges.row((x, k) -> x.period(1, 3, k), Words.of("aaab"), new int[] {1, 2}, REFUSED);
    }

    static void promise17BelowNone() {
        WordRuns x = Words.of("aaa");
        Check.due("k NONE", x.period(0, 3, NONE), 3);
        Check.due("k -2", x.period(0, 3, -2), NONE);
        Check.due("k MIN", x.period(0, 3, MIN), NONE);
        Check.due("k -2 of none", x.period(0, 0, -2), NONE);
    }

    static void promise17NoneAheadOfNotSoMany() {
        WordRuns x = Words.of("aaa");
        Check.due("no PART, k too large", x.period(0, 4, 7), NONE);
        Check.due("no PART, k MAX", x.period(2, 1, MAX), NONE);
        Check.due("no PART, how many", x.period(4, 4, NONE), NONE);
    }

    static void promise17WithoutLetters() {
        WordRuns x = new WordRuns();
        Check.due("how many", x.period(0, 0, NONE), 0);
        Check.due("k 0", x.period(0, 0, 0), REFUSED);
        Check.due("no PART", x.period(0, 1, 0), NONE);
    }

    static void promise17Of120Letters() {
        WordRuns x = Words.of(ALL_A);
        Check.due("how many", x.period(0, 120, NONE), 120);
        Check.due("k 119", x.period(0, 120, 119), 120);
        Check.due("k 120", x.period(0, 120, 120), REFUSED);
    }

    // ---- promise 18: root ----

    // "Of a PART (1 letter at least)"
    static void promise18PartBounds() {
        for (int what = 0; what <= 2; what++) {
            int each = what;
            Edges.partBounds((x, i, j) -> x.root(i, j, each), false, NONE);
        }
    }

    static void promise18OneLetter() {
        WordRuns x = Words.of("ba");
        for (int place = 0; place <= 1; place++) {
            Check.due("what 0", x.root(place, place + 1, 0), 1);
            Check.due("what 1", x.root(place, place + 1, 1), 1);
            Check.due("what 2", x.root(place, place + 1, 2), 0);
        }
    }

    static void promise18NoLetters() {
        WordRuns x = Words.of("ba");
        for (int what = 0; what <= 2; what++) {
            Check.due("what " + what, x.root(1, 1, what), NONE);
            Check.due("what " + what + " at the end", x.root(2, 2, what), NONE);
            Check.due("what " + what + " without letters", new WordRuns().root(0, 0, what), NONE);
        }
    }

    static void promise18What() {
        Edges.whatBounds(2, () -> Words.of("abab"), (x, what) -> x.root(0, 4, what));
    }

    // "the shortest word that it is some times": once, if no shorter one
    static void promise18Once() {
        WordRuns x = Words.of("ababa");
        Check.due("what 0", x.root(0, 5, 0), 5);
        Check.due("what 1", x.root(0, 5, 1), 1);
    }

    // of a later PART, too: its length is that of the PART
    static void promise18OfALaterPart() {
        Check.due("what 0 of aba", Words.of("xaba").root(1, 4, 0), 3);
        Check.due("what 1 of aba", Words.of("xaba").root(1, 4, 1), 1);
        Check.due("what 0 of abab", Words.of("xxabab").root(2, 6, 0), 2);
        Check.due("what 1 of abab", Words.of("xxabab").root(2, 6, 1), 2);
    }

    static void promise18TwiceAndTheShortest() {
        WordRuns x = Words.of("abababab");
        Check.due("what 0 of two", x.root(0, 4, 0), 2);
        Check.due("what 1 of two", x.root(0, 4, 1), 2);
        Check.due("what 0 of four", x.root(0, 8, 0), 2);
        Check.due("what 1 of four", x.root(0, 8, 1), 4);
        Check.due("what 0 of like letters", Words.of("aaa").root(0, 3, 0), 1);
        Check.due("what 1 of like letters", Words.of("aaa").root(0, 3, 1), 3);
    }

    // "at which letter of it (0 the first) .. the first such"
    static void promise18TheFirstAndTheLastRotation() {
        Check.due("the first letter", Words.of("aab").root(0, 3, 2), 0);
        Check.due("the last letter", Words.of("bba").root(0, 3, 2), 2);
        Check.due("the first such", Words.of("baba").root(0, 4, 2), 1);
        Check.due("the first such of like letters", Words.of("zzz").root(0, 3, 2), 0);
        Check.due("of it, not of the WORD", Words.of("ccba").root(1, 4, 2), 2);
        Check.due("the first such of a later PART", Words.of("xaa").root(1, 3, 2), 0);
        Check.due("what stands behind the PART is not its", Words.of("babazzzzz").root(0, 4, 2), 1);
        Check.due("the rotation goes on with the first letter", Words.of("xabacz").root(1, 4, 2), 2);
    }

    static void promise18Of120Letters() {
        WordRuns x = Words.of(ALL_A);
        Check.due("what 0", x.root(0, 120, 0), 1);
        Check.due("what 1", x.root(0, 120, 1), 120);
        Check.due("what 2", x.root(0, 120, 2), 0);
        WordRuns late = Words.of("b".repeat(119) + "a");
        Check.due("what 0", late.root(0, 120, 0), 120);
        Check.due("what 2", late.root(0, 120, 2), 119);
    }

    // ---- promise 19: lyndon ----

    // "k NONE: how many; NONE for k below NONE"
    static void promise19BelowNone() {
        WordRuns x = Words.of("ba");
        Check.due("k NONE up", x.lyndon(true, NONE), 2);
        Check.due("k NONE down", x.lyndon(false, NONE), 1);
        for (boolean up : new boolean[] {true, false}) {
            Check.due("k -2", x.lyndon(up, -2), NONE);
            Check.due("k MIN", x.lyndon(up, MIN), NONE);
            Check.due("k -2 without letters", new WordRuns().lyndon(up, -2), NONE);
        }
    }

    // "The k-th: from 0 on; -2: there are not so many"
    static void promise19TheFirstTheLastAndNotSoMany() {
        Edges.row((x, k) -> x.lyndon(true, k), Words.of("bbaab"), new int[] {0, 1, 2}, REFUSED);
        Edges.row((x, k) -> x.lyndon(false, k), Words.of("bbaab"), new int[] {0, 4}, REFUSED);
    }

    // "of one letter: it is" a LYNDON word
    static void promise19OneLetter() {
        for (String letter : new String[] {"a", "z"}) {
            Edges.row((x, k) -> x.lyndon(true, k), Words.of(letter), new int[] {0}, REFUSED);
            Edges.row((x, k) -> x.lyndon(false, k), Words.of(letter), new int[] {0}, REFUSED);
        }
    }

    static void promise19WithoutLetters() {
        for (boolean up : new boolean[] {true, false}) {
            Check.due("how many", new WordRuns().lyndon(up, NONE), 0);
            Check.due("k 0", new WordRuns().lyndon(up, 0), REFUSED);
        }
    }

    // "none of them less than the next one": like ones may stand behind one another
    static void promise19LikeOnes() {
        Edges.row((x, k) -> x.lyndon(true, k), Words.of("aaa"), new int[] {0, 1, 2}, REFUSED);
        Edges.row((x, k) -> x.lyndon(true, k), Words.of("abab"), new int[] {0, 2}, REFUSED);
        Edges.row((x, k) -> x.lyndon(false, k), Words.of("baba"), new int[] {0, 2}, REFUSED);
    }

    static void promise19TheWholeWord() {
        Edges.row((x, k) -> x.lyndon(true, k), Words.of("aabab"), new int[] {0}, REFUSED);
        Edges.row((x, k) -> x.lyndon(false, k), Words.of("bbaba"), new int[] {0}, REFUSED);
    }

    // "a beginning of another one is less than it", UP or not
    static void promise19ABeginningIsLess() {
        Edges.row((x, k) -> x.lyndon(true, k), Words.of("aba"), new int[] {0, 2}, REFUSED);
        Edges.row((x, k) -> x.lyndon(false, k), Words.of("bab"), new int[] {0, 2}, REFUSED);
    }

    // "UP: a is the least letter; else z"
    static void promise19TheLeastLetter() {
        Check.due("az up", Words.of("az").lyndon(true, NONE), 1);
        Check.due("az down", Words.of("az").lyndon(false, NONE), 2);
        Check.due("za up", Words.of("za").lyndon(true, NONE), 2);
        Check.due("za down", Words.of("za").lyndon(false, NONE), 1);
    }

    static void promise19Of120Letters() {
        WordRuns x = Words.of(ALL_A);
        Check.due("how many", x.lyndon(true, NONE), 120);
        Check.due("k 119", x.lyndon(true, 119), 119);
        Check.due("k 120", x.lyndon(true, 120), REFUSED);
        WordRuns whole = Words.of("a".repeat(119) + "b");
        Check.due("how many of a whole one", whole.lyndon(true, NONE), 1);
        Check.due("how many of it down", whole.lyndon(false, NONE), 120);
    }

    // ---- promise 20: longest ----

    static void promise20Places() {
        Edges.placeBounds((x, place) -> x.longest(true, place));
        Edges.placeBounds((x, place) -> x.longest(false, place));
    }

    // one letter is a LYNDON word, so 1 at least
    static void promise20OneLetterAtLeast() {
        WordRuns x = Words.of("zza");
        int[] up = {1, 1, 1};
        int[] down = {3, 2, 1};
        for (int place = 0; place < 3; place++) {
            Check.due("up at " + place, x.longest(true, place), up[place]);
            Check.due("down at " + place, x.longest(false, place), down[place]);
        }
    }

    static void promise20TheLastPlace() {
        Check.due("up", Words.of("ab").longest(true, 1), 1);
        Check.due("down", Words.of("ba").longest(false, 1), 1);
        Check.due("behind it", Words.of("ab").longest(true, 2), NONE);
    }

    static void promise20TheWholeWord() {
        Check.due("up", Words.of("aab").longest(true, 0), 3);
        Check.due("down", Words.of("bba").longest(false, 0), 3);
    }

    // less than all its rotations: a word that is another one twice is not
    static void promise20NotAPower() {
        Check.due("aa", Words.of("aa").longest(true, 0), 1);
        Check.due("abab", Words.of("abab").longest(true, 0), 2);
        Check.due("ababb", Words.of("ababb").longest(true, 0), 5);
        Check.due("aba", Words.of("aba").longest(true, 0), 2);
    }

    static void promise20WithoutLetters() {
        Check.due("up", new WordRuns().longest(true, 0), NONE);
        Check.due("down", new WordRuns().longest(false, 0), NONE);
    }

    static void promise20Of120Letters() {
        WordRuns x = Words.of("a".repeat(119) + "b");
        Check.due("at 0", x.longest(true, 0), 120);
        Check.due("at 119", x.longest(true, 119), 1);
        Check.due("at 0 down", x.longest(false, 0), 1);
        Check.due("at 120", x.longest(true, 120), NONE);
    }

    // ---- promise 22: runs ----

    static void promise22Places() {
        Edges.placeBounds(WordRuns::runs);
    }

    // a RUN i, j has the PLACES i to j - 1
    static void promise22TheFirstAndTheLastPlaceOfARun() {
        WordRuns x = Words.of("caabbd");
        int[] due = {0, 1, 1, 1, 1, 0};
        for (int place = 0; place < due.length; place++) {
            Check.due("runs(" + place + ")", x.runs(place), due[place]);
        }
        Check.due("runs(6)", x.runs(6), NONE);
    }

    static void promise22NoRunAndSeveral() {
        Check.due("no RUN", Words.of("abc").runs(1), 0);
        Check.due("one letter", Words.of("a").runs(0), 0);
        WordRuns x = Words.of("aabaab");
        int[] due = {2, 2, 1, 2, 2, 1};
        for (int place = 0; place < due.length; place++) {
            Check.due("runs(" + place + ")", x.runs(place), due[place]);
        }
    }

    static void promise22WithoutLettersAndOf120() {
        Check.due("without letters", new WordRuns().runs(0), NONE);
        WordRuns x = Words.of(ALL_A);
        Check.due("runs(0)", x.runs(0), 1);
        Check.due("runs(119)", x.runs(119), 1);
        Check.due("runs(120)", x.runs(120), NONE);
    }

    // ---- promise 25: cover ----

    // "of a PART (1 letter at least ..)"
    static void promise25PartBounds() {
        Edges.partBounds((x, i, j) -> x.cover(i, j, NONE), false, NONE);
        Edges.partBounds((x, i, j) -> x.cover(i, j, 0), false, NONE);
    }

    static void promise25NoLetters() {
        WordRuns x = Words.of("ab");
        Check.due("how many", x.cover(1, 1, NONE), NONE);
        Check.due("k 0", x.cover(2, 2, 0), NONE);
        Check.due("without letters", new WordRuns().cover(0, 0, NONE), NONE);
    }

    static void promise25OneLetter() {
        Edges.row((x, k) -> x.cover(1, 2, k), Words.of("ab"), new int[] {1}, REFUSED);
        Check.due("how many", Words.of("ab").cover(1, 2, NONE), 1);
    }

    // "the PART itself is one"
    static void promise25ThePartItself() {
        Edges.row((x, k) -> x.cover(0, 3, k), Words.of("abc"), new int[] {3}, REFUSED);
        Check.due("how many", Words.of("abc").cover(0, 3, NONE), 1);
    }

    // "the shortest first", "The k-th: from 0 on; -2: there are not so many"
    static void promise25TheShortestFirst() {
        Edges.row((x, k) -> x.cover(0, 6, k), Words.of("ababab"), new int[] {2, 4, 6}, REFUSED);
        Check.due("how many", Words.of("ababab").cover(0, 6, NONE), 3);
    }

    // "each PLACE is in one of those at which it LIES": side by side is enough, a gap of one is not
    static void promise25SideBySideAndAGap() {
        Edges.row((x, k) -> x.cover(0, 4, k), Words.of("abab"), new int[] {2, 4}, REFUSED);
        Edges.row((x, k) -> x.cover(0, 5, k), Words.of("abcab"), new int[] {5}, REFUSED);
        Edges.row((x, k) -> x.cover(0, 5, k), Words.of("abaab"), new int[] {5}, REFUSED);
        Edges.row((x, k) -> x.cover(0, 5, k), Words.of("ababa"), new int[] {3, 5}, REFUSED);
    }

    // LIES in the PART: "all of them within"
    static void promise25AllOfThemWithin() {
        WordRuns x = Words.of("abaaba");
        Edges.row((y, k) -> y.cover(0, 5, k), x, new int[] {5}, REFUSED);
        Edges.row((y, k) -> y.cover(1, 6, k), x, new int[] {5}, REFUSED);
        Edges.row((y, k) -> y.cover(0, 6, k), x, new int[] {3, 6}, REFUSED);
        Edges.row((y, k) -> y.cover(0, 4, k), Words.of("ababab"), new int[] {2, 4}, REFUSED);
        Edges.row((y, k) -> y.cover(2, 4, k), Words.of("ababab"), new int[] {2}, REFUSED);
        Edges.row((y, k) -> y.cover(1, 3, k), Words.of("aaaa"), new int[] {1, 2}, REFUSED);
    }

    // "NONE likewise"
    static void promise25BelowNone() {
        WordRuns x = Words.of("aaa");
        Check.due("k NONE", x.cover(0, 3, NONE), 3);
        Check.due("k -2", x.cover(0, 3, -2), NONE);
        Check.due("k MIN", x.cover(0, 3, MIN), NONE);
    }

    static void promise25NoneAheadOfNotSoMany() {
        WordRuns x = Words.of("aaa");
        Check.due("no PART, k too large", x.cover(0, 4, 7), NONE);
        Check.due("an empty PART, k too large", x.cover(1, 1, 7), NONE);
        Check.due("no PART, k MAX", x.cover(2, 1, MAX), NONE);
    }

    static void promise25Of120Letters() {
        WordRuns x = Words.of(ALL_A);
        Check.due("how many", x.cover(0, 120, NONE), 120);
        Check.due("k 0", x.cover(0, 120, 0), 1);
        Check.due("k 119", x.cover(0, 120, 119), 120);
        Check.due("k 120", x.cover(0, 120, 120), REFUSED);
    }

    // ---- promise 28: mirror ----

    static void promise28Places() {
        Edges.placeBounds((x, place) -> x.mirror(place, false));
        Edges.placeBounds((x, place) -> x.mirror(place, true));
    }

    // ahead of the first PLACE there is none
    static void promise28TheFirstPlace() {
        WordRuns x = Words.of("aab");
        Check.due("at 0", x.mirror(0, false), 1);
        Check.due("ahead of 0", x.mirror(0, true), 0);
        Check.due("ahead of 1", x.mirror(1, true), 2);
    }

    static void promise28TheLastPlace() {
        WordRuns x = Words.of("baa");
        Check.due("at 2", x.mirror(2, false), 1);
        Check.due("ahead of 2", x.mirror(2, true), 2);
        Check.due("ahead of 3", x.mirror(3, true), NONE);
        Check.due("at 3", x.mirror(3, false), NONE);
    }

    // "(true; 0 if there is none)"
    static void promise28NoneBetweenUnlikeLetters() {
        WordRuns x = Words.of("aba");
        Check.due("ahead of 1", x.mirror(1, true), 0);
        Check.due("at 1", x.mirror(1, false), 3);
    }

    // one that comes to the first or the last letter ends there
    static void promise28UpToTheEnds() {
        Check.due("to the first", Words.of("abac").mirror(1, false), 3);
        Check.due("to the last", Words.of("caba").mirror(2, false), 3);
        Check.due("to both", Words.of("abba").mirror(2, true), 4);
    }

    static void promise28WithoutLettersAndOneLetter() {
        Check.due("at 0 of none", new WordRuns().mirror(0, false), NONE);
        Check.due("ahead of 0 of none", new WordRuns().mirror(0, true), NONE);
        Check.due("at 0 of one", Words.of("q").mirror(0, false), 1);
        Check.due("ahead of 0 of one", Words.of("q").mirror(0, true), 0);
    }

    static void promise28Of120Letters() {
        WordRuns x = Words.of(ALL_A);
        Check.due("ahead of 60", x.mirror(60, true), 120);
        Check.due("at 60", x.mirror(60, false), 119);
        Check.due("at 59", x.mirror(59, false), 119);
        Check.due("ahead of 119", x.mirror(119, true), 2);
        Check.due("at 119", x.mirror(119, false), 1);
        Check.due("at 120", x.mirror(120, false), NONE);
        Check.due("ahead of 120", x.mirror(120, true), NONE);
    }

    // ---- promise 34: ends ----

    // "NONE without these, also where there are not so many"
    static void promise34TheFirstTheLastAndNotSoMany() {
        Edges.row((x, k) -> x.ends(k, 0), Words.of("bab"), new int[] {1, 2, 0}, NONE);
        Edges.row((x, k) -> x.ends(k, 1), Words.of("bab"), new int[] {0, 0, 1}, NONE);
    }

    static void promise34BelowNone() {
        WordRuns x = Words.of("ab");
        for (int what = 0; what <= 1; what++) {
            Check.due("k -1", x.ends(-1, what), NONE);
            Check.due("k -2", x.ends(-2, what), NONE);
            Check.due("k MIN", x.ends(MIN, what), NONE);
        }
    }

    static void promise34What() {
        Edges.whatBounds(1, () -> Words.of("ab"), (x, what) -> x.ends(0, what));
        Edges.whatBounds(1, () -> Words.of("ab"), (x, what) -> x.ends(1, what));
    }

    // "(0 for the first)"
    static void promise34TheFirstHasNothingAhead() {
        Check.due("of like letters", Words.of("aa").ends(0, 1), 0);
        Check.due("of one letter", Words.of("q").ends(0, 1), 0);
    }

    // "a beginning of another one is less than it"
    static void promise34ABeginningIsLess() {
        Edges.row((x, k) -> x.ends(k, 0), Words.of("aaa"), new int[] {2, 1, 0}, NONE);
        Edges.row((x, k) -> x.ends(k, 1), Words.of("aaa"), new int[] {0, 1, 2}, NONE);
    }

    // "by order (UP)"
    static void promise34AIsTheLeastLetter() {
        Edges.row((x, k) -> x.ends(k, 0), Words.of("zay"), new int[] {1, 2, 0}, NONE);
    }

    // they are those of the WORD that there is now
    static void promise34BehindAnAct() {
        WordRuns x = Words.of("cab");
        Edges.row((y, k) -> y.ends(k, 0), x, new int[] {1, 2, 0}, NONE);
        x.drop(0);
        Edges.row((y, k) -> y.ends(k, 0), x, new int[] {0, 1}, NONE);
        x.insert(2, 0);
        Edges.row((y, k) -> y.ends(k, 0), x, new int[] {2, 0, 1}, NONE);
    }

    static void promise34WithoutLetters() {
        Check.due("k 0", new WordRuns().ends(0, 0), NONE);
        Check.due("k 0", new WordRuns().ends(0, 1), NONE);
        Check.due("k -1", new WordRuns().ends(NONE, 0), NONE);
    }

    static void promise34Of120Letters() {
        WordRuns x = Words.of(ALL_A);
        Check.due("k 0", x.ends(0, 0), 119);
        Check.due("k 119", x.ends(119, 0), 0);
        Check.due("k 119", x.ends(119, 1), 119);
        Check.due("k 120", x.ends(120, 0), NONE);
        Check.due("k 120", x.ends(120, 1), NONE);
    }

    // ---- promise 37: lies ----

    // "a PART (1 letter at least)"
    static void promise37PartBounds() {
        Edges.partBounds((x, i, j) -> x.lies(i, j, NONE), false, NONE);
        Edges.partBounds((x, i, j) -> x.lies(i, j, 0), false, NONE);
    }

    static void promise37NoLetters() {
        WordRuns x = Words.of("ab");
        Check.due("how many", x.lies(0, 0, NONE), NONE);
        Check.due("k 0", x.lies(2, 2, 0), NONE);
        Check.due("without letters", new WordRuns().lies(0, 0, NONE), NONE);
    }

    static void promise37TheFirstTheLastAndNotSoMany() {
        Edges.row((x, k) -> x.lies(0, 1, k), Words.of("abaa"), new int[] {0, 2, 3}, REFUSED);
        Edges.row((x, k) -> x.lies(3, 4, k), Words.of("abaa"), new int[] {0, 2, 3}, REFUSED);
        Check.due("how many", Words.of("abaa").lies(0, 1, NONE), 3);
    }

    // "all of them within": up to the last letter, not beyond it
    static void promise37AllOfThemWithin() {
        Edges.row((x, k) -> x.lies(0, 2, k), Words.of("abcab"), new int[] {0, 3}, REFUSED);
        Edges.row((x, k) -> x.lies(0, 3, k), Words.of("abcab"), new int[] {0}, REFUSED);
        Edges.row((x, k) -> x.lies(0, 5, k), Words.of("abcab"), new int[] {0}, REFUSED);
    }

    // those that have PLACES in common are counted each
    static void promise37OverItself() {
        Edges.row((x, k) -> x.lies(0, 2, k), Words.of("aaaa"), new int[] {0, 1, 2}, REFUSED);
    }

    static void promise37BelowNone() {
        WordRuns x = Words.of("aaa");
        Check.due("k -2", x.lies(0, 1, -2), NONE);
        Check.due("k MIN", x.lies(0, 1, MIN), NONE);
    }

    static void promise37NoneAheadOfNotSoMany() {
        WordRuns x = Words.of("aaa");
        Check.due("no PART, k too large", x.lies(0, 4, 7), NONE);
        Check.due("an empty PART, k too large", x.lies(1, 1, 7), NONE);
        Check.due("no PART, k MAX", x.lies(2, 1, MAX), NONE);
    }

    static void promise37Of120Letters() {
        WordRuns x = Words.of(ALL_A);
        Check.due("how many of one letter", x.lies(119, 120, NONE), 120);
        Check.due("k 119", x.lies(119, 120, 119), 119);
        Check.due("k 120", x.lies(119, 120, 120), REFUSED);
        Check.due("how many of all", x.lies(0, 120, NONE), 1);
        Check.due("k 0 of all", x.lies(0, 120, 0), 0);
        Check.due("k 1 of all", x.lies(0, 120, 1), REFUSED);
    }

    // ---- promise 38: compare ----

    // "-2 without these": the first PART, the second one
    static void promise38PartBounds() {
        Edges.partBounds((x, i, j) -> x.compare(i, j, 0, 0), true, REFUSED);
        Edges.partBounds((x, i, j) -> x.compare(0, 0, i, j), true, REFUSED);
        Edges.partBounds((x, i, j) -> x.compare(i, j, i, j), true, REFUSED);
    }

    static void promise38WithoutOneOfThem() {
        WordRuns x = Words.of("abcab");
        Check.due("without the first", x.compare(0, 6, 0, 5), REFUSED);
        Check.due("without the second", x.compare(0, 5, 0, 6), REFUSED);
        Check.due("without both", x.compare(3, 2, -1, 0), REFUSED);
    }

    static void promise38EmptyParts() {
        WordRuns x = Words.of("abc");
        Check.due("both empty", x.compare(0, 0, 3, 3), 0);
        Check.due("the first empty", x.compare(3, 3, 0, 1), -1);
        Check.due("the second empty", x.compare(0, 1, 1, 1), 1);
        Check.due("without letters", new WordRuns().compare(0, 0, 0, 0), 0);
    }

    // "a beginning of another one is less than it"
    static void promise38ABeginningIsLess() {
        WordRuns x = Words.of("abcabc");
        Check.due("ab and abc", x.compare(0, 2, 3, 6), -1);
        Check.due("abc and ab", x.compare(0, 3, 3, 5), 1);
        Check.due("abc and abc", x.compare(0, 3, 3, 6), 0);
    }

    // "by the first unlike letter": the first of all, the last of all, more than length counts
    static void promise38TheFirstUnlikeLetter() {
        WordRuns x = Words.of("aacaab");
        Check.due("the last letter", x.compare(0, 3, 3, 6), 1);
        Check.due("the other way", x.compare(3, 6, 0, 3), -1);
        Check.due("the first letter of the longer one", x.compare(2, 6, 0, 1), 1);
        Check.due("a short one with a greater letter", x.compare(5, 6, 0, 5), 1);
        Check.due("a and z", Words.of("az").compare(0, 1, 1, 2), -1);
    }

    // what stands behind a PART is not asked
    static void promise38BehindTheParts() {
        WordRuns x = Words.of("xacab");
        Check.due("a and ab", x.compare(1, 2, 3, 5), -1);
        Check.due("ab and a", x.compare(3, 5, 1, 2), 1);
        Check.due("a and a", x.compare(1, 2, 3, 4), 0);
    }

    static void promise38APartWithItself() {
        WordRuns x = Words.of("abc");
        Check.due("the same", x.compare(0, 3, 0, 3), 0);
        Check.due("its beginning", x.compare(0, 2, 0, 3), -1);
        Check.due("its own beginning ahead", x.compare(0, 3, 0, 2), 1);
    }

    static void promise38Of120Letters() {
        WordRuns x = Words.of(ALL_A);
        Check.due("all and all", x.compare(0, 120, 0, 120), 0);
        Check.due("all and all but one", x.compare(0, 120, 1, 120), 1);
        Check.due("all but one and all", x.compare(0, 119, 0, 120), -1);
        Check.due("beyond all", x.compare(0, 121, 0, 120), REFUSED);
    }

    // ---- promise 45: alike ----

    static void promise45Places() {
        Edges.placeBounds((x, place) -> x.alike(place, 0));
        Edges.placeBounds((x, place) -> x.alike(0, place));
        Edges.placeBounds((x, place) -> x.alike(place, place));
    }

    static void promise45TheSamePlace() {
        WordRuns x = Words.of("abc");
        Check.due("alike(0, 0)", x.alike(0, 0), 3);
        Check.due("alike(2, 2)", x.alike(2, 2), 1);
    }

    static void promise45NoneAreAlike() {
        Check.due("alike(0, 1)", Words.of("ab").alike(0, 1), 0);
        Check.due("alike(1, 0)", Words.of("ab").alike(1, 0), 0);
    }

    // up to the last letter of the WORD
    static void promise45UpToTheEnd() {
        WordRuns x = Words.of("ababa");
        Check.due("alike(0, 2)", x.alike(0, 2), 3);
        Check.due("alike(2, 0)", x.alike(2, 0), 3);
        Check.due("alike(0, 4)", x.alike(0, 4), 1);
        Check.due("alike(4, 0)", x.alike(4, 0), 1);
    }

    // up to the last letter that there is now
    static void promise45BehindAShorterAndALongerWord() {
        WordRuns x = Words.of("aaaa");
        Check.due("alike(0, 2)", x.alike(0, 2), 2);
        x.drop(3);
        Check.due("alike(0, 2) behind drop", x.alike(0, 2), 1);
        Check.due("alike(0, 3) behind drop", x.alike(0, 3), NONE);
        x.again(0, 2);
        Check.due("alike(0, 2) behind again", x.alike(0, 2), 3);
    }

    static void promise45WithoutLetters() {
        Check.due("alike(0, 0)", new WordRuns().alike(0, 0), NONE);
    }

    static void promise45Of120Letters() {
        WordRuns x = Words.of(ALL_A);
        Check.due("alike(0, 0)", x.alike(0, 0), 120);
        Check.due("alike(0, 1)", x.alike(0, 1), 119);
        Check.due("alike(0, 119)", x.alike(0, 119), 1);
        Check.due("alike(0, 120)", x.alike(0, 120), NONE);
        Check.due("alike(120, 0)", x.alike(120, 0), NONE);
    }
}
