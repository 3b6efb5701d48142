/** The boundary cases of promises 29 to 32, 35, 36, 40 to 42, 46: questions about the whole WORD. */
public final class WordEdgesTest {
    private static final int NONE = Edges.NONE;
    private static final int REFUSED = Edges.REFUSED;
    private static final int MAX = Edges.MAX;
    private static final int MIN = Edges.MIN;
    private static final String ALL_A = "a".repeat(120);
    private static final String ALPHABET = "abcdefghijklmnopqrstuvwxyz";

    private WordEdgesTest() {
    }

    public static void main(String[] args) throws IllegalAccessException {
        Edges.run(WordEdgesTest.class, 29, 30, 31, 32, 35, 36, 40, 41, 42, 46);
    }

    /** The answers of what 0, 1, .. */
    private static void row(String call, WordRuns x, Edges.PlaceCall asked, int... due) {
        for (int what = 0; what < due.length; what++) {
            Check.due(call + ", what " + what, asked.of(x, what), due[what]);
        }
    }

    // ---- promise 29: mirrors ----

    private static void mirrors(String word, int... due) {
        row("mirrors of " + word, Words.of(word), WordRuns::mirrors, due);
    }

    static void promise29What() {
        Edges.whatBounds(4, () -> Words.of("ab"), WordRuns::mirrors);
    }

    // "(0 without letters)", "(0)", "(-2)"
    static void promise29WithoutLetters() {
        row("mirrors of a new object", new WordRuns(), WordRuns::mirrors, 0, 0, 0, 0, REFUSED, NONE);
        mirrors("", 0, 0, 0, 0, REFUSED, NONE);
    }

    static void promise29NoneAheadOfNoPlace() {
        for (int what : new int[] {-1, -2, 5, 6, MAX, MIN}) {
            Check.due("mirrors(" + what + ")", new WordRuns().mirrors(what), NONE);
        }
    }

    // "PARTS (1 letter at least)"
    static void promise29OneLetterAtLeast() {
        mirrors("q", 1, 1, 1, 1, 0);
        mirrors("ab", 2, 2, 2, 1, 0);
        mirrors("aa", 3, 2, 1, 2, 0);
    }

    // "of how few palindromes .. the WORD is": one, as many as letters, fewer than the longest ones first would leave
    static void promise29Fewest() {
        mirrors("abcba", 7, 5, 1, 5, 0);
        mirrors("abc", 3, 3, 3, 1, 0);
        Check.due("one longest palindrome is in the way", Words.of("aabaaacaa").mirrors(2), 3);
        Check.due("the one from the first letter is too long", Words.of("abab").mirrors(2), 2);
    }

    // "where the first such begins"
    static void promise29TheFirstOfTheLongest() {
        mirrors("abccd", 6, 5, 4, 2, 2);
        mirrors("aabb", 6, 4, 2, 2, 0);
        mirrors("xabay", 6, 5, 3, 3, 1);
    }

    static void promise29Of120Letters() {
        mirrors(ALL_A, 7260, 120, 1, 120, 0);
        Check.due("unlike letters by turns", Words.of(Edges.FULL).mirrors(2), 120);
    }

    // ---- promise 30: factors ----

    // "a length (1 and more)", "of length NONE: of all lengths together; NONE for others"
    static void promise30Lengths() {
        WordRuns x = Words.of("abab");
        Check.due("factors(-2)", x.factors(-2), NONE);
        Check.due("factors(-1)", x.factors(NONE), 7);
        Check.due("factors(0)", x.factors(0), NONE);
        Check.due("factors(1)", x.factors(1), 2);
        Check.due("factors(4)", x.factors(4), 1);
        Check.due("factors(MIN)", x.factors(MIN), NONE);
    }

    // there are none longer than the WORD
    static void promise30LongerThanTheWord() {
        WordRuns x = Words.of("abab");
        Check.due("factors(5)", x.factors(5), 0);
        Check.due("factors(120)", x.factors(120), 0);
        Check.due("factors(121)", x.factors(121), 0);
        Check.due("factors(MAX)", x.factors(MAX), 0);
    }

    static void promise30WithoutLetters() {
        WordRuns x = new WordRuns();
        Check.due("factors(-1)", x.factors(NONE), 0);
        Check.due("factors(0)", x.factors(0), NONE);
        Check.due("factors(1)", x.factors(1), 0);
        Check.due("factors(-2)", x.factors(-2), NONE);
    }

    // unlike ones: like words count once, unlike ones each
    static void promise30LikeAndUnlike() {
        Check.due("like letters", Words.of("aaa").factors(1), 1);
        Check.due("like letters together", Words.of("aaa").factors(NONE), 3);
        Check.due("unlike letters", Words.of("abc").factors(1), 3);
        Check.due("unlike letters together", Words.of("abc").factors(NONE), 6);
    }

    static void promise30Of120Letters() {
        WordRuns x = Words.of(ALL_A);
        Check.due("factors(120)", x.factors(120), 1);
        Check.due("factors(121)", x.factors(121), 0);
        Check.due("factors(-1)", x.factors(NONE), 120);
    }

    // ---- promise 31: bare ----

    private static void bare(String word, int... due) {
        row("bare of " + word, Words.of(word), WordRuns::bare, due);
    }

    static void promise31What() {
        Edges.whatBounds(1, () -> Words.of("ab"), WordRuns::bare);
    }

    // "(0 without letters)", "(-2)"
    static void promise31WithoutLetters() {
        row("bare of a new object", new WordRuns(), WordRuns::bare, 0, REFUSED, NONE);
    }

    static void promise31NoneAheadOfNoPlace() {
        Check.due("bare(2)", new WordRuns().bare(2), NONE);
        Check.due("bare(-1)", new WordRuns().bare(-1), NONE);
    }

    // one letter has no BORDER: "shorter than it, 1 letter at least"
    static void promise31OneLetter() {
        bare("q", 1, 0);
        bare("aa", 1, 0);
        bare("aaa", 1, 0);
    }

    static void promise31AllOfTheWord() {
        bare("ab", 2, 0);
        bare("aab", 3, 0);
        bare("aba", 2, 0);
    }

    static void promise31TheFirstOfTheLongest() {
        bare("aabb", 4, 0);
        bare("abaa", 3, 1);
        bare("bbab", 3, 0);
        bare("abaaba", 3, 1);
    }

    static void promise31Of120Letters() {
        bare(ALL_A, 1, 0);
        bare("a".repeat(119) + "b", 120, 0);
        bare("b" + "a".repeat(118) + "b", 119, 0);
    }

    // ---- promise 32: twice ----

    private static void twice(boolean apart, String word, int... due) {
        row("twice " + apart + " of " + word, Words.of(word), (x, what) -> x.twice(apart, what), due);
    }

    static void promise32What() {
        for (boolean apart : new boolean[] {true, false}) {
            Edges.whatBounds(2, () -> Words.of("aa"), (x, what) -> x.twice(apart, what));
            Edges.whatBounds(2, () -> Words.of("ab"), (x, what) -> x.twice(apart, what));
        }
    }

    // "(0: none)", "(-2)"
    static void promise32ThereIsNone() {
        for (boolean apart : new boolean[] {true, false}) {
            twice(apart, "", 0, REFUSED, REFUSED, NONE);
            twice(apart, "a", 0, REFUSED, REFUSED, NONE);
            twice(apart, "abc", 0, REFUSED, REFUSED, NONE);
        }
    }

    static void promise32NoneAheadOfNoPlace() {
        for (boolean apart : new boolean[] {true, false}) {
            for (int what : new int[] {-1, -2, 3, MAX, MIN}) {
                Check.due("twice(" + apart + ", " + what + ")", new WordRuns().twice(apart, what), NONE);
            }
        }
    }

    // "at two PLACES at least"
    static void promise32TwoPlacesAndThree() {
        twice(false, "aba", 1, 0, 2);
        twice(true, "aba", 1, 0, 2);
        twice(false, "abcabdab", 2, 0, 3);
        twice(true, "abcabdab", 2, 0, 3);
    }

    // "(apart: at two that have no PLACE in common)": side by side they have none
    static void promise32SideBySideAndOverItself() {
        twice(false, "aaa", 2, 0, 1);
        twice(true, "aaa", 1, 0, 1);
        twice(false, "ababa", 3, 0, 2);
        twice(true, "ababa", 2, 0, 2);
        twice(true, "abab", 2, 0, 2);
        twice(true, "aaaa", 2, 0, 2);
    }

    // "2: the next one that is so": one that is not apart from the first is passed over
    static void promise32TheNextOneThatIsSo() {
        twice(true, "aaabaa", 2, 0, 4);
        twice(false, "aaabaa", 2, 0, 1);
    }

    // "of several the one that begins first"
    static void promise32TheOneThatBeginsFirst() {
        twice(false, "abxbcyabzbc", 2, 0, 6);
        twice(true, "cdabxabycd", 2, 0, 8);
    }

    static void promise32Of120Letters() {
        twice(false, ALL_A, 119, 0, 1);
        twice(true, ALL_A, 60, 0, 60);
        twice(true, "a".repeat(119), 59, 0, 59);
    }

    // ---- promise 35: abel ----

    private static void abel(String word, int... due) {
        row("abel of " + word, Words.of(word), WordRuns::abel, due);
    }

    static void promise35What() {
        Edges.whatBounds(2, () -> Words.of("ab"), WordRuns::abel);
    }

    static void promise35ThereIsNone() {
        abel("", 0, 0, REFUSED, NONE);
        abel("a", 0, 0, REFUSED, NONE);
        abel("ab", 0, 0, REFUSED, NONE);
        abel("aba", 0, 0, REFUSED, NONE);
    }

    static void promise35NoneAheadOfNoPlace() {
        Check.due("abel(3)", new WordRuns().abel(3), NONE);
        Check.due("abel(-1)", new WordRuns().abel(-1), NONE);
    }

    // "two halves (1 letter at least each)"
    static void promise35OneLetterEach() {
        abel("aa", 1, 2, 0);
        abel("baa", 1, 2, 1);
    }

    // "the same letters in some order each": so many of each letter, too
    static void promise35InSomeOrder() {
        abel("abba", 2, 4, 0);
        abel("abab", 1, 4, 0);
        abel("abaabb", 3, 4, 1);
        abel("abcbca", 2, 6, 0);
        abel("bbaabbaa", 9, 8, 0);
    }

    // "letters a to z (0 to 25)": what one middle has seen of a or z does not count at the next one
    static void promise35TheFirstAndTheLastLetter() {
        abel("aza", 0, 0, REFUSED, NONE);
        abel("zaz", 0, 0, REFUSED, NONE);
        abel("azza", 2, 4, 0);
        abel("zaaz", 2, 4, 0);
        abel("aazzaza", 4, 4, 1);
    }

    static void promise35AllOfTheWord() {
        abel("abccba", 3, 6, 0);
        abel("xabba", 2, 4, 1);
        abel("abbax", 2, 4, 0);
    }

    static void promise35TheFirstOfTheLongest() {
        abel("aabb", 2, 2, 0);
        abel("ccxabba", 3, 4, 3);
    }

    static void promise35Of120Letters() {
        abel(ALL_A, 3600, 120, 0);
        abel("a".repeat(119), 59 * 60, 118, 0);
    }

    // ---- promise 36: often ----

    // "a letter (0 to 25)", "NONE for others"
    static void promise36Letters() {
        Edges.letterBounds(() -> Words.of("ab"), WordRuns::often, true);
        Edges.letterBounds(WordRuns::new, WordRuns::often, true);
    }

    static void promise36TheFirstAndTheLastLetter() {
        WordRuns x = Words.of("azzab");
        Check.due("often(0)", x.often(0), 2);
        Check.due("often(25)", x.often(25), 2);
        Check.due("often(1)", x.often(1), 1);
        Check.due("often(2)", x.often(2), 0);
        Check.due("often(26)", x.often(26), NONE);
    }

    static void promise36WithoutLetters() {
        WordRuns x = new WordRuns();
        Check.due("often(0)", x.often(0), 0);
        Check.due("often(25)", x.often(25), 0);
        Check.due("often(-1)", x.often(NONE), 0);
        Check.due("often(-2)", x.often(-2), NONE);
    }

    // "letter NONE: how long the longest PART with no letter twice is"
    static void promise36NoLetterTwice() {
        Check.due("one letter", Words.of("q").often(NONE), 1);
        Check.due("like letters", Words.of("qq").often(NONE), 1);
        Check.due("all of them", Words.of("abc").often(NONE), 3);
        Check.due("the last ones", Words.of("aabc").often(NONE), 3);
        Check.due("the first ones", Words.of("abcc").often(NONE), 3);
        Check.due("within", Words.of("abcadeb").often(NONE), 5);
    }

    // 26 letters at most are unlike
    static void promise36AllLettersOnce() {
        Check.due("all", Words.of(ALPHABET).often(NONE), 26);
        Check.due("all twice", Words.of(ALPHABET + ALPHABET).often(NONE), 26);
        Check.due("from z on", Words.of("z" + ALPHABET).often(NONE), 26);
    }

    static void promise36Of120Letters() {
        Check.due("often(0)", Words.of(ALL_A).often(0), 120);
        Check.due("often(1)", Words.of(ALL_A).often(1), 0);
        Check.due("often(-1)", Words.of(ALL_A).often(NONE), 1);
        Check.due("often(-1)", Words.of(Edges.FULL).often(NONE), 3);
    }

    // ---- promise 40: closed ----

    private static void closed(String word, int... due) {
        row("closed of " + word, Words.of(word), WordRuns::closed, due);
    }

    static void promise40What() {
        Edges.whatBounds(2, () -> Words.of("ab"), WordRuns::closed);
    }

    static void promise40WithoutLetters() {
        row("closed of a new object", new WordRuns(), WordRuns::closed, 0, 0, REFUSED, NONE);
    }

    static void promise40NoneAheadOfNoPlace() {
        Check.due("closed(3)", new WordRuns().closed(3), NONE);
        Check.due("closed(-1)", new WordRuns().closed(-1), NONE);
    }

    // "one letter": it is CLOSED; two letters without a BORDER are not
    static void promise40OneLetter() {
        closed("q", 1, 1, 0);
        closed("ab", 2, 1, 0);
        closed("abc", 3, 1, 0);
    }

    // "at two PLACES alone"
    static void promise40TwoPlacesAlone() {
        closed("aa", 3, 2, 0);
        closed("aba", 4, 3, 0);
        // a lies thrice in abaca; aba lies twice in ababa
        closed("abaca", 7, 3, 0);
        closed("ababa", 11, 5, 0);
    }

    // "the longest BORDER": a shorter one may lie more often
    static void promise40TheLongestBorder() {
        closed("aabaa", 9, 5, 0);
        closed("aaa", 6, 3, 0);
    }

    static void promise40TheFirstOfTheLongest() {
        closed("abcc", 5, 2, 2);
        closed("aabb", 6, 2, 0);
    }

    static void promise40Of120Letters() {
        closed(ALL_A, 7260, 120, 0);
        closed("a" + "b".repeat(118) + "a", 2 + 118 * 119 / 2 + 1, 120, 0);
    }

    // ---- promise 41: absent ----

    private static void absent(String word, int... due) {
        row("absent of " + word, Words.of(word), WordRuns::absent, due);
    }

    static void promise41What() {
        Edges.whatBounds(2, () -> Words.of("ab"), WordRuns::absent);
    }

    // "(0)": without letters no word can do so
    static void promise41WithoutLetters() {
        row("absent of a new object", new WordRuns(), WordRuns::absent, 0, 0, 0, NONE);
    }

    static void promise41NoneAheadOfTheRest() {
        Check.due("absent(3)", new WordRuns().absent(3), NONE);
        Check.due("absent(-1)", new WordRuns().absent(-1), NONE);
    }

    // "Words of 2 letters at least": one letter that is not in the WORD is none
    static void promise41TwoLettersAtLeast() {
        absent("q", 1, 2, 2);
        absent("ab", 3, 2, 2);
    }

    // "letters a to z (0 to 25)"
    static void promise41TheFirstAndTheLastLetter() {
        absent("za", 3, 2, 2);
        absent("zaz", 3, 2, 3);
        absent("abcdefghijklmnopqrstuvwxyz", 26 * 26 - 25, 2, 2);
    }

    // the longest one may be longer than the WORD by one letter
    static void promise41LongerThanTheWord() {
        absent("qq", 1, 3, 3);
        absent("aab", 3, 2, 3);
        absent("aaa", 1, 4, 4);
    }

    // "do without the first letter, and do without the last one": both
    static void promise41BothMustLie() {
        // of abaab: bb, aaa, bab, aaba; baba does not LIE either, but neither does bab
        absent("abaab", 4, 2, 4);
        absent("abc", 7, 2, 2);
    }

    static void promise41Of120Letters() {
        absent(ALL_A, 1, 121, 121);
        absent("a".repeat(119) + "b", 3, 2, 120);
    }

    // ---- promise 42: special ----

    // "a length (0 and more ..)", "NONE for others"
    static void promise42Lengths() {
        WordRuns x = Words.of("abaabb");
        Check.due("special(-2)", x.special(-2), NONE);
        Check.due("special(-1)", x.special(NONE), NONE);
        Check.due("special(0)", x.special(0), 1);
        Check.due("special(1)", x.special(1), 2);
        Check.due("special(2)", x.special(2), 1);
        Check.due("special(MIN)", x.special(MIN), NONE);
    }

    // "the empty one is one": behind it all letters come
    static void promise42TheEmptyOne() {
        Check.due("two unlike letters", Words.of("ab").special(0), 1);
        Check.due("like letters", Words.of("aa").special(0), 0);
        Check.due("one letter", Words.of("a").special(0), 0);
        Check.due("without letters", new WordRuns().special(0), 0);
    }

    // behind the last letters nothing comes
    static void promise42UpToTheEnd() {
        WordRuns x = Words.of("aab");
        Check.due("special(1)", x.special(1), 1);
        Check.due("special(2)", x.special(2), 0);
        Check.due("a at the end", Words.of("aba").special(1), 0);
        Check.due("a once more", Words.of("abac").special(1), 1);
    }

    // of the length of the WORD and beyond there are none
    static void promise42AsLongAsTheWordAndLonger() {
        WordRuns x = Words.of("aab");
        Check.due("special(3)", x.special(3), 0);
        Check.due("special(4)", x.special(4), 0);
        Check.due("special(121)", x.special(121), 0);
        Check.due("special(MAX)", x.special(MAX), 0);
        Check.due("without letters", new WordRuns().special(1), 0);
        Check.due("without letters", new WordRuns().special(-1), NONE);
    }

    // "two unlike letters at least": two, three, each word once
    static void promise42TwoAndThreeUnlikeLetters() {
        Check.due("two", Words.of("abac").special(1), 1);
        Check.due("three", Words.of("abacad").special(1), 1);
        Check.due("the same twice", Words.of("abab").special(1), 0);
        Check.due("two of them", Words.of("abacbc").special(1), 2);
    }

    static void promise42Of120Letters() {
        WordRuns x = Words.of("a".repeat(119) + "b");
        Check.due("special(118)", x.special(118), 1);
        Check.due("special(119)", x.special(119), 0);
        Check.due("special(120)", x.special(120), 0);
        Check.due("like letters", Words.of(ALL_A).special(118), 0);
    }

    // ---- promise 46: count ----

    // "What 0: .. 5", "NONE for others"
    static void promise46What() {
        Edges.whatBounds(5, () -> Words.of("ab"), WordRuns::count);
        Edges.whatBounds(5, WordRuns::new, WordRuns::count);
    }

    static void promise46OfANewObject() {
        row("count", new WordRuns(), WordRuns::count, 0, 0, 0, 0, 0, 0, NONE);
    }

    static void promise46Letters() {
        Check.due("none", Words.of("").count(0), 0);
        Check.due("one", Words.of("q").count(0), 1);
        Check.due("120", Words.of(ALL_A).count(0), 120);
        WordRuns x = Words.of(ALL_A);
        x.insert(0, 1);
        Check.due("120 behind a refused one", x.count(0), 120);
    }

    static void promise46UnlikeLetters() {
        Check.due("none", Words.of("").count(1), 0);
        Check.due("one", Words.of("zzz").count(1), 1);
        Check.due("one of 120", Words.of(ALL_A).count(1), 1);
        Check.due("a and z", Words.of("aza").count(1), 2);
        Check.due("all", Words.of(ALPHABET + ALPHABET).count(1), 26);
    }

    // "ACTS that can be UNDONE": "The last 10"
    static void promise46Acts() {
        WordRuns x = new WordRuns();
        for (int act = 1; act <= 12; act++) {
            x.insert(0, act);
            Check.due("behind " + act, x.count(2), Math.min(10, act));
        }
        x.undo();
        Check.due("behind undo()", x.count(2), 9);
    }

    static void promise46Bytes() {
        WordRuns x = new WordRuns();
        for (int bytes = 20; bytes <= 300; bytes += 20) {
            x.feed(0, 0, 0, 0, 0);
            Check.due("behind feed", x.count(3), bytes);
        }
        x.feed(0, 0, 0, 0, 0);
        Check.due("behind a refused feed", x.count(3), 300);
        x.end(1);
        Check.due("behind end(1)", x.count(3), 1);
        x.tell();
        Check.due("behind tell()", x.count(3), 0);
    }

    // "SHELVES on which something is KEPT, as bits": also a word without letters is something
    static void promise46Shelves() {
        WordRuns x = new WordRuns();
        Check.due("none", x.count(4), 0);
        x.keep(1);
        Check.due("1", x.count(4), 2);
        x.keep(0);
        Check.due("both", x.count(4), 3);
        x.keep(0);
        Check.due("0 once more", x.count(4), 3);
        x.back(0);
        Check.due("behind back(0)", x.count(4), 3);
        WordRuns first = new WordRuns();
        first.keep(0);
        Check.due("0", first.count(4), 1);
        first.keep(2);
        first.keep(-1);
        Check.due("behind others", first.count(4), 1);
    }

    // "each in thousandths as run() tells it": downwards each, then together
    static void promise46Exponents() {
        Check.due("without letters", new WordRuns().count(5), 0);
        Check.due("no RUN", Words.of("abc").count(5), 0);
        Check.due("one RUN", Words.of("aa").count(5), 2000);
        Check.due("8 by 3", Words.of("abcabcab").count(5), 2666);
        Check.due("8 by 3 twice", Words.of("abcabcabxyzxyzxy").count(5), 5332);
        Check.due("120 like letters", Words.of(ALL_A).count(5), 120000);
    }
}
