import java.util.function.ToIntFunction;

/** The boundary cases of promises 5 to 11 and 39: the ACTS. */
public final class ActEdgesTest {
    private static final int NONE = Edges.NONE;
    private static final int REFUSED = Edges.REFUSED;
    private static final int MAX = Edges.MAX;
    private static final int MIN = Edges.MIN;
    private static final String FULL = Edges.FULL;

    private ActEdgesTest() {
    }

    public static void main(String[] args) throws IllegalAccessException {
        Edges.run(ActEdgesTest.class, 5, 6, 7, 8, 9, 10, 11, 39);
    }

    /** On abcab, on 120 letters, each with something of all else that can change. */
    private static void nothingHappens(String call, ToIntFunction<WordRuns> refused, int answer) {
        Edges.nothingHappens(call + " of five letters", Edges::busy, refused, answer);
    }

    private static void nothingHappensFull(String call, ToIntFunction<WordRuns> refused, int answer) {
        Edges.nothingHappens(call + " of 120 letters", Edges::full, refused, answer);
    }

    private static void nothingHappensWithout(String call, ToIntFunction<WordRuns> refused, int answer) {
        Edges.nothingHappens(call + " without letters", Edges::without, refused, answer);
    }

    private static void becomes(String word, String call, ToIntFunction<WordRuns> act, int answer, String after) {
        WordRuns x = Words.of(word);
        Check.due(call + " of " + word, act.applyAsInt(x), answer);
        Edges.holds(call + " of " + word, x, after);
    }

    // ---- promise 5: put ----

    // "PLACES 0, 1, .." to the last letter's; "NONE .. without these"
    static void promise05Places() {
        Edges.placeBounds((x, place) -> x.put(place, 25));
    }

    static void promise05TheFirstAndTheLastPlace() {
        becomes("abcab", "put(0, 3)", x -> x.put(0, 3), 0, "dbcab");
        becomes("abcab", "put(4, 3)", x -> x.put(4, 3), 1, "abcad");
        becomes("q", "put(0, 3)", x -> x.put(0, 3), 16, "d");
        becomes(FULL, "put(119, 3)", x -> x.put(119, 3), 2, FULL.substring(0, 119) + "d");
    }

    // "(0 to 25)"
    static void promise05Letters() {
        Edges.letterBounds(() -> Words.of("qrs"), (x, letter) -> x.put(1, letter), false);
    }

    static void promise05TheFirstAndTheLastLetter() {
        becomes("qrs", "put(1, 0)", x -> x.put(1, 0), 17, "qas");
        becomes("qrs", "put(1, 25)", x -> x.put(1, 25), 17, "qzs");
        becomes("aza", "put(0, 25)", x -> x.put(0, 25), 0, "zza");
        becomes("aza", "put(1, 0)", x -> x.put(1, 0), 25, "aaa");
    }

    // "NONE, and nothing happens, without these"
    static void promise05NothingHappensWithoutThePlace() {
        nothingHappens("put(-1, 3)", x -> x.put(-1, 3), NONE);
        nothingHappens("put(5, 3)", x -> x.put(5, 3), NONE);
        nothingHappens("put(MAX, 3)", x -> x.put(MAX, 3), NONE);
        nothingHappens("put(MIN, 3)", x -> x.put(MIN, 3), NONE);
        nothingHappensFull("put(120, 3)", x -> x.put(120, 3), NONE);
        nothingHappensWithout("put(0, 3)", x -> x.put(0, 3), NONE);
    }

    static void promise05NothingHappensWithoutTheLetter() {
        nothingHappens("put(0, -1)", x -> x.put(0, -1), NONE);
        nothingHappens("put(4, 26)", x -> x.put(4, 26), NONE);
        nothingHappens("put(0, 256)", x -> x.put(0, 256), NONE);
        nothingHappensFull("put(119, 26)", x -> x.put(119, 26), NONE);
    }

    // "-2: it is so", and it is no ACT then
    static void promise05ItIsSo() {
        nothingHappens("put(0, 0)", x -> x.put(0, 0), REFUSED);
        nothingHappens("put(4, 1)", x -> x.put(4, 1), REFUSED);
        nothingHappensFull("put(119, 2)", x -> x.put(119, 2), REFUSED);
        becomes("z", "put(0, 25)", x -> x.put(0, 25), REFUSED, "z");
    }

    // "Where NONE and another answer fit, it is NONE"
    static void promise05NoneAheadOfItIsSo() {
        Check.due("no letter where there is none", Words.of("abc").put(3, NONE), NONE);
        Check.due("without letters", new WordRuns().put(0, NONE), NONE);
    }

    // "ACTS: all from put() .."
    static void promise05IsAnAct() {
        Edges.isAct("put(0, 5)", "abc", x -> x.put(0, 5), 0, "fbc");
        Edges.isAct("put(119, 5)", FULL, x -> x.put(119, 5), 2, FULL.substring(0, 119) + "f");
    }

    // ---- promise 6: insert ----

    // "A letter comes ahead of a PLACE (how many there are: at the end)"
    static void promise06AheadOfTheFirstAndTheLast() {
        becomes("abc", "insert(0, 3)", x -> x.insert(0, 3), 4, "dabc");
        becomes("abc", "insert(2, 3)", x -> x.insert(2, 3), 4, "abdc");
    }

    static void promise06AtTheEnd() {
        becomes("abc", "insert(3, 3)", x -> x.insert(3, 3), 4, "abcd");
        becomes("abc", "insert(4, 3)", x -> x.insert(4, 3), NONE, "abc");
        becomes("", "insert(0, 3)", x -> x.insert(0, 3), 1, "d");
        becomes("", "insert(1, 3)", x -> x.insert(1, 3), NONE, "");
    }

    static void promise06NothingHappensWithoutThePlace() {
        nothingHappens("insert(-1, 3)", x -> x.insert(-1, 3), NONE);
        nothingHappens("insert(6, 3)", x -> x.insert(6, 3), NONE);
        nothingHappens("insert(MAX, 3)", x -> x.insert(MAX, 3), NONE);
        nothingHappens("insert(MIN, 3)", x -> x.insert(MIN, 3), NONE);
        nothingHappensWithout("insert(1, 3)", x -> x.insert(1, 3), NONE);
    }

    static void promise06Letters() {
        Edges.letterBounds(() -> Words.of("qrs"), (x, letter) -> x.insert(1, letter), false);
        becomes("q", "insert(0, 0)", x -> x.insert(0, 0), 2, "aq");
        becomes("q", "insert(1, 25)", x -> x.insert(1, 25), 2, "qz");
    }

    static void promise06NothingHappensWithoutTheLetter() {
        nothingHappens("insert(0, -1)", x -> x.insert(0, -1), NONE);
        nothingHappens("insert(5, 26)", x -> x.insert(5, 26), NONE);
        nothingHappensWithout("insert(0, 26)", x -> x.insert(0, 26), NONE);
    }

    // "120 at most"
    static void promise06TheLastLetterThatFits() {
        String most = FULL.substring(0, 119);
        becomes(most, "insert(119, 3)", x -> x.insert(119, 3), 120, most + "d");
        becomes(most, "insert(0, 3)", x -> x.insert(0, 3), 120, "d" + most);
    }

    // "-2: there are 120"
    static void promise06ThereAre120() {
        nothingHappensFull("insert(0, 3)", x -> x.insert(0, 3), REFUSED);
        nothingHappensFull("insert(119, 3)", x -> x.insert(119, 3), REFUSED);
        nothingHappensFull("insert(120, 3)", x -> x.insert(120, 3), REFUSED);
    }

    static void promise06NoneAheadOf120() {
        nothingHappensFull("insert(121, 3)", x -> x.insert(121, 3), NONE);
        nothingHappensFull("insert(-1, 3)", x -> x.insert(-1, 3), NONE);
        nothingHappensFull("insert(0, -1)", x -> x.insert(0, -1), NONE);
        nothingHappensFull("insert(0, 26)", x -> x.insert(0, 26), NONE);
    }

    static void promise06IsAnAct() {
        Edges.isAct("insert(0, 5)", "", x -> x.insert(0, 5), 1, "f");
        Edges.isAct("insert(3, 5)", "abc", x -> x.insert(3, 5), 4, "abcf");
        Edges.isAct("insert(119, 5)", FULL.substring(1), x -> x.insert(119, 5), 120, FULL.substring(1) + "f");
    }

    // ---- promise 7: drop ----

    static void promise07Places() {
        Edges.placeBounds((x, place) -> x.drop(place));
    }

    static void promise07TheFirstAndTheLastPlace() {
        becomes("zbca", "drop(0)", x -> x.drop(0), 25, "bca");
        becomes("zbca", "drop(3)", x -> x.drop(3), 0, "zbc");
        becomes(FULL, "drop(119)", x -> x.drop(119), 2, FULL.substring(0, 119));
        becomes(FULL, "drop(0)", x -> x.drop(0), 0, FULL.substring(1));
    }

    static void promise07TheOnlyLetter() {
        becomes("q", "drop(0)", x -> x.drop(0), 16, "");
        becomes("", "drop(0)", x -> x.drop(0), NONE, "");
    }

    // "NONE, and nothing happens, without it"
    static void promise07NothingHappensWithoutThePlace() {
        nothingHappens("drop(-1)", x -> x.drop(-1), NONE);
        nothingHappens("drop(5)", x -> x.drop(5), NONE);
        nothingHappens("drop(MAX)", x -> x.drop(MAX), NONE);
        nothingHappens("drop(MIN)", x -> x.drop(MIN), NONE);
        nothingHappensFull("drop(120)", x -> x.drop(120), NONE);
        nothingHappensWithout("drop(0)", x -> x.drop(0), NONE);
        nothingHappensWithout("drop(-1)", x -> x.drop(-1), NONE);
    }

    static void promise07IsAnAct() {
        Edges.isAct("drop(0)", "abc", x -> x.drop(0), 0, "bc");
        Edges.isAct("drop(0)", "q", x -> x.drop(0), 16, "");
    }

    // ---- promise 8: turn ----

    static void promise08PartBounds() {
        Edges.partBounds(WordRuns::turn, true, NONE);
    }

    static void promise08AllOfIt() {
        becomes("abc", "turn(0, 3)", x -> x.turn(0, 3), 2, "cba");
        becomes("abcd", "turn(0, 4)", x -> x.turn(0, 4), 4, "dcba");
        becomes(FULL, "turn(0, 120)", x -> x.turn(0, 120), 80, "cba".repeat(40));
    }

    static void promise08AtTheBeginAndAtTheEnd() {
        becomes("abcde", "turn(0, 2)", x -> x.turn(0, 2), 2, "bacde");
        becomes("abcde", "turn(3, 5)", x -> x.turn(3, 5), 2, "abced");
    }

    // "NONE, and nothing happens, without it"
    static void promise08NothingHappensWithoutThePart() {
        nothingHappens("turn(-1, 3)", x -> x.turn(-1, 3), NONE);
        nothingHappens("turn(0, 6)", x -> x.turn(0, 6), NONE);
        nothingHappens("turn(3, 2)", x -> x.turn(3, 2), NONE);
        nothingHappens("turn(6, 6)", x -> x.turn(6, 6), NONE);
        nothingHappens("turn(MIN, MAX)", x -> x.turn(MIN, MAX), NONE);
        nothingHappensFull("turn(0, 121)", x -> x.turn(0, 121), NONE);
        nothingHappensWithout("turn(0, 1)", x -> x.turn(0, 1), NONE);
        nothingHappensWithout("turn(-1, 0)", x -> x.turn(-1, 0), NONE);
    }

    // "-2: none would": an empty PART, one letter, a palindrome; it is no ACT
    static void promise08NoneWouldOfAnEmptyPart() {
        nothingHappens("turn(0, 0)", x -> x.turn(0, 0), REFUSED);
        nothingHappens("turn(5, 5)", x -> x.turn(5, 5), REFUSED);
        nothingHappensFull("turn(120, 120)", x -> x.turn(120, 120), REFUSED);
        nothingHappensWithout("turn(0, 0)", x -> x.turn(0, 0), REFUSED);
    }

    static void promise08NoneWouldOfOneLetter() {
        nothingHappens("turn(0, 1)", x -> x.turn(0, 1), REFUSED);
        nothingHappens("turn(4, 5)", x -> x.turn(4, 5), REFUSED);
        becomes("q", "turn(0, 1)", x -> x.turn(0, 1), REFUSED, "q");
    }

    static void promise08NoneWouldOfAPalindrome() {
        becomes("aab", "turn(0, 2)", x -> x.turn(0, 2), REFUSED, "aab");
        becomes("abcba", "turn(0, 5)", x -> x.turn(0, 5), REFUSED, "abcba");
        Edges.nothingHappens("turn of a palindrome", () -> {
            WordRuns x = Words.of("cabac");
            x.put(0, 3);
            return x;
        }, x -> x.turn(1, 4), REFUSED);
    }

    // the fewest PLACES that can have another letter
    static void promise08TwoPlaces() {
        becomes("acbca", "turn(1, 3)", x -> x.turn(1, 3), 2, "abcca");
        becomes("abxaa", "turn(0, 5)", x -> x.turn(0, 5), 2, "aaxba");
    }

    static void promise08NoneAheadOfNoneWould() {
        nothingHappens("an empty PART behind the end", x -> x.turn(6, 6), NONE);
        nothingHappens("an empty PART ahead of the first", x -> x.turn(-1, -1), NONE);
        nothingHappensFull("an empty PART behind the end", x -> x.turn(121, 121), NONE);
    }

    static void promise08IsAnAct() {
        Edges.isAct("turn(0, 3)", "abc", x -> x.turn(0, 3), 2, "cba");
    }

    // ---- promise 9: again ----

    // "A PART (1 letter at least)"
    static void promise09PartBounds() {
        Edges.partBounds((x, i, j) -> x.again(i, j), false, NONE);
    }

    static void promise09OneLetterAndAll() {
        becomes("abc", "again(0, 1)", x -> x.again(0, 1), 4, "abca");
        becomes("abc", "again(2, 3)", x -> x.again(2, 3), 4, "abcc");
        becomes("abc", "again(0, 3)", x -> x.again(0, 3), 6, "abcabc");
        becomes("q", "again(0, 1)", x -> x.again(0, 1), 2, "qq");
    }

    static void promise09NothingHappensWithoutALetter() {
        nothingHappens("again(0, 0)", x -> x.again(0, 0), NONE);
        nothingHappens("again(5, 5)", x -> x.again(5, 5), NONE);
        nothingHappensWithout("again(0, 0)", x -> x.again(0, 0), NONE);
    }

    static void promise09NothingHappensWithoutThePart() {
        nothingHappens("again(-1, 2)", x -> x.again(-1, 2), NONE);
        nothingHappens("again(4, 6)", x -> x.again(4, 6), NONE);
        nothingHappens("again(3, 2)", x -> x.again(3, 2), NONE);
        nothingHappens("again(MIN, MAX)", x -> x.again(MIN, MAX), NONE);
        nothingHappens("again(0, MAX)", x -> x.again(0, MAX), NONE);
        nothingHappensWithout("again(0, 1)", x -> x.again(0, 1), NONE);
    }

    // "-2: there would be more than 120"
    static void promise09UpTo120() {
        String sixty = "ab".repeat(30);
        becomes(sixty, "again(0, 60)", x -> x.again(0, 60), 120, sixty + sixty);
        String most = FULL.substring(0, 119);
        becomes(most, "again(118, 119)", x -> x.again(118, 119), 120, most + "b");
    }

    static void promise09UpTo121() {
        String more = "ab".repeat(30) + "c";
        Edges.nothingHappens("again(0, 60) of 61", () -> Words.of(more), x -> x.again(0, 60), REFUSED);
        Edges.nothingHappens("again(0, 61) of 61", () -> Words.of(more), x -> x.again(0, 61), REFUSED);
        becomes(more, "again(1, 60)", x -> x.again(1, 60), 120, more + more.substring(1, 60));
        nothingHappensFull("again(119, 120)", x -> x.again(119, 120), REFUSED);
        nothingHappensFull("again(0, 120)", x -> x.again(0, 120), REFUSED);
    }

    static void promise09NoneAheadOf120() {
        nothingHappensFull("again(0, 121)", x -> x.again(0, 121), NONE);
        nothingHappensFull("again(120, 120)", x -> x.again(120, 120), NONE);
        nothingHappensFull("again(-1, 1)", x -> x.again(-1, 1), NONE);
        nothingHappensFull("again(2, 1)", x -> x.again(2, 1), NONE);
    }

    static void promise09IsAnAct() {
        Edges.isAct("again(0, 3)", "abc", x -> x.again(0, 3), 6, "abcabc");
        Edges.isAct("again(0, 60)", "ab".repeat(30), x -> x.again(0, 60), 120, "ab".repeat(60));
    }

    // ---- promise 10: rotate ----

    // "(0 to how many there are)"
    static void promise10TheFirstAndAllButOne() {
        becomes("abc", "rotate(1)", x -> x.rotate(1), 3, "bca");
        becomes("abc", "rotate(2)", x -> x.rotate(2), 3, "cab");
        becomes(FULL, "rotate(119)", x -> x.rotate(119), 120, "cab".repeat(40));
    }

    static void promise10NothingHappensForOthers() {
        nothingHappens("rotate(-1)", x -> x.rotate(-1), NONE);
        nothingHappens("rotate(6)", x -> x.rotate(6), NONE);
        nothingHappens("rotate(MAX)", x -> x.rotate(MAX), NONE);
        nothingHappens("rotate(MIN)", x -> x.rotate(MIN), NONE);
        nothingHappensFull("rotate(121)", x -> x.rotate(121), NONE);
        nothingHappensWithout("rotate(1)", x -> x.rotate(1), NONE);
        nothingHappensWithout("rotate(-1)", x -> x.rotate(-1), NONE);
    }

    // "-2: none would"
    static void promise10NoneWouldOfNoneAndOfAll() {
        nothingHappens("rotate(0)", x -> x.rotate(0), REFUSED);
        nothingHappens("rotate(5)", x -> x.rotate(5), REFUSED);
        nothingHappensFull("rotate(0)", x -> x.rotate(0), REFUSED);
        nothingHappensFull("rotate(120)", x -> x.rotate(120), REFUSED);
        nothingHappensWithout("rotate(0)", x -> x.rotate(0), REFUSED);
        becomes("q", "rotate(1)", x -> x.rotate(1), REFUSED, "q");
    }

    static void promise10NoneWouldOfAPower() {
        nothingHappensFull("rotate(3)", x -> x.rotate(3), REFUSED);
        nothingHappensFull("rotate(117)", x -> x.rotate(117), REFUSED);
        becomes("abab", "rotate(2)", x -> x.rotate(2), REFUSED, "abab");
        becomes("aaa", "rotate(1)", x -> x.rotate(1), REFUSED, "aaa");
    }

    // the fewest PLACES that can have another letter
    static void promise10TwoPlaces() {
        becomes("aab", "rotate(1)", x -> x.rotate(1), 2, "aba");
        becomes("ab", "rotate(1)", x -> x.rotate(1), 2, "ba");
    }

    // "Where NONE and another answer fit, it is NONE"
    static void promise10NoneAheadOfNoneWould() {
        becomes("aaa", "rotate(4)", x -> x.rotate(4), NONE, "aaa");
        becomes("aaa", "rotate(-1)", x -> x.rotate(-1), NONE, "aaa");
        nothingHappensFull("rotate(123)", x -> x.rotate(123), NONE);
        nothingHappensFull("rotate(-3)", x -> x.rotate(-3), NONE);
    }

    static void promise10IsAnAct() {
        Edges.isAct("rotate(1)", "abc", x -> x.rotate(1), 3, "bca");
    }

    // ---- promise 11: only ----

    static void promise11PartBounds() {
        Edges.partBounds((x, i, j) -> x.only(i, j), true, NONE);
    }

    static void promise11NoLetters() {
        becomes("abc", "only(0, 0)", x -> x.only(0, 0), 0, "");
        becomes("abc", "only(3, 3)", x -> x.only(3, 3), 0, "");
        becomes(FULL, "only(120, 120)", x -> x.only(120, 120), 0, "");
    }

    static void promise11OneLetterAndAllButOne() {
        becomes("abc", "only(0, 1)", x -> x.only(0, 1), 1, "a");
        becomes("abc", "only(2, 3)", x -> x.only(2, 3), 1, "c");
        becomes("abc", "only(0, 2)", x -> x.only(0, 2), 2, "ab");
        becomes("abc", "only(1, 3)", x -> x.only(1, 3), 2, "bc");
        becomes(FULL, "only(0, 119)", x -> x.only(0, 119), 119, FULL.substring(0, 119));
        becomes(FULL, "only(1, 120)", x -> x.only(1, 120), 119, FULL.substring(1));
    }

    // "-2: it is all of it"
    static void promise11AllOfIt() {
        nothingHappens("only(0, 5)", x -> x.only(0, 5), REFUSED);
        nothingHappensFull("only(0, 120)", x -> x.only(0, 120), REFUSED);
        nothingHappensWithout("only(0, 0)", x -> x.only(0, 0), REFUSED);
        becomes("q", "only(0, 1)", x -> x.only(0, 1), REFUSED, "q");
    }

    static void promise11NothingHappensWithoutThePart() {
        nothingHappens("only(-1, 3)", x -> x.only(-1, 3), NONE);
        nothingHappens("only(2, 6)", x -> x.only(2, 6), NONE);
        nothingHappens("only(3, 2)", x -> x.only(3, 2), NONE);
        nothingHappens("only(MIN, MAX)", x -> x.only(MIN, MAX), NONE);
        nothingHappensWithout("only(0, 1)", x -> x.only(0, 1), NONE);
        nothingHappensWithout("only(1, 0)", x -> x.only(1, 0), NONE);
    }

    // as long as the WORD, but not within it: NONE
    static void promise11NoneAheadOfAllOfIt() {
        nothingHappens("only(1, 6)", x -> x.only(1, 6), NONE);
        nothingHappens("only(-1, 4)", x -> x.only(-1, 4), NONE);
        nothingHappensFull("only(1, 121)", x -> x.only(1, 121), NONE);
        nothingHappensFull("only(-1, 119)", x -> x.only(-1, 119), NONE);
        nothingHappensWithout("only(1, 1)", x -> x.only(1, 1), NONE);
    }

    // ".. to only()"
    static void promise11IsAnAct() {
        Edges.isAct("only(1, 2)", "abc", x -> x.only(1, 2), 1, "b");
        Edges.isAct("only(0, 0)", "abc", x -> x.only(0, 0), 0, "");
        Edges.isAct("only(1, 120)", FULL, x -> x.only(1, 120), 119, FULL.substring(1));
    }

    // ---- promise 39: sub ----

    // "a letter (0 to 25)"
    static void promise39Letters() {
        Edges.letterBounds(() -> Words.of("azby"), (x, letter) -> x.sub(letter, 0, 1), false);
        becomes("aza", "sub(0, 1, 2)", x -> x.sub(0, 1, 2), 3, "zzz");
        becomes("aza", "sub(25, 0, 1)", x -> x.sub(25, 0, 1), 3, "aaa");
    }

    static void promise39NothingHappensWithoutTheLetter() {
        nothingHappens("sub(-1, 0, 2)", x -> x.sub(-1, 0, 2), NONE);
        nothingHappens("sub(26, 0, 2)", x -> x.sub(26, 0, 2), NONE);
        nothingHappensWithout("sub(26, 0, 0)", x -> x.sub(26, 0, 0), NONE);
    }

    static void promise39PartBounds() {
        Edges.partBounds((x, i, j) -> x.sub(0, i, j), true, NONE);
    }

    static void promise39NothingHappensWithoutThePart() {
        nothingHappens("sub(0, -1, 2)", x -> x.sub(0, -1, 2), NONE);
        nothingHappens("sub(0, 0, 6)", x -> x.sub(0, 0, 6), NONE);
        nothingHappens("sub(0, 3, 2)", x -> x.sub(0, 3, 2), NONE);
        nothingHappens("sub(0, MIN, MAX)", x -> x.sub(0, MIN, MAX), NONE);
        nothingHappensWithout("sub(0, 0, 1)", x -> x.sub(0, 0, 1), NONE);
    }

    static void promise39AnEmptyPart() {
        becomes("abca", "sub(0, 2, 2)", x -> x.sub(0, 2, 2), 2, "bc");
        becomes("abca", "sub(1, 4, 4)", x -> x.sub(1, 4, 4), 3, "aca");
        becomes("aaa", "sub(0, 0, 0)", x -> x.sub(0, 0, 0), 0, "");
        becomes("a".repeat(120), "sub(0, 120, 120)", x -> x.sub(0, 120, 120), 0, "");
    }

    static void promise39OneLetterAndAll() {
        becomes("abc", "sub(1, 2, 3)", x -> x.sub(1, 2, 3), 3, "acc");
        becomes("abc", "sub(1, 0, 3)", x -> x.sub(1, 0, 3), 5, "aabcc");
        becomes("q", "sub(16, 0, 1)", x -> x.sub(16, 0, 1), 1, "q");
    }

    // "gets a PART, as it is now": the PART itself is not changed while it comes in
    static void promise39AsItIsNow() {
        becomes("aab", "sub(0, 0, 3)", x -> x.sub(0, 0, 3), 7, "aabaabb");
        becomes("aba", "sub(0, 0, 2)", x -> x.sub(0, 0, 2), 5, "abbab");
    }

    // "-2: there is no such letter"
    static void promise39NoSuchLetter() {
        nothingHappens("sub(3, 0, 2)", x -> x.sub(3, 0, 2), REFUSED);
        nothingHappens("sub(25, 0, 0)", x -> x.sub(25, 0, 0), REFUSED);
        nothingHappensFull("sub(3, 0, 120)", x -> x.sub(3, 0, 120), REFUSED);
        nothingHappensWithout("sub(0, 0, 0)", x -> x.sub(0, 0, 0), REFUSED);
    }

    // "or there would be more than 120"
    static void promise39UpTo120() {
        String sixty = "a" + "b".repeat(60);
        becomes(sixty, "sub(0, 1, 61)", x -> x.sub(0, 1, 61), 120, "b".repeat(120));
        becomes(FULL, "sub(0, 1, 2)", x -> x.sub(0, 1, 2), 120, "bbc".repeat(40));
        becomes("abab" + "b".repeat(112), "sub(0, 0, 3)", x -> x.sub(0, 0, 3), 120,
            "abababab" + "b".repeat(112));
    }

    static void promise39UpTo121() {
        String sixty = "a" + "b".repeat(60);
        Edges.nothingHappens("sub(0, 0, 61) to 121", () -> Words.of(sixty), x -> x.sub(0, 0, 61), REFUSED);
        nothingHappensFull("sub(0, 0, 2)", x -> x.sub(0, 0, 2), REFUSED);
        nothingHappensFull("sub(0, 0, 120)", x -> x.sub(0, 0, 120), REFUSED);
        Edges.nothingHappens("sub to 14400", () -> Words.of("a".repeat(120)), x -> x.sub(0, 0, 120), REFUSED);
    }

    static void promise39NoneAheadOfTheRest() {
        nothingHappens("no such letter, no PART", x -> x.sub(3, 0, 6), NONE);
        nothingHappensFull("too many, no PART", x -> x.sub(0, 0, 121), NONE);
        nothingHappensFull("no letter, no PART", x -> x.sub(26, 3, 2), NONE);
        nothingHappensWithout("no such letter, no PART", x -> x.sub(0, 1, 1), NONE);
    }

    // ".., sub()", also where each letter stays as it was
    static void promise39IsAnAct() {
        Edges.isAct("sub(0, 1, 3)", "abc", x -> x.sub(0, 1, 3), 4, "bcbc");
        Edges.isAct("sub(0, 0, 0)", "aaa", x -> x.sub(0, 0, 0), 0, "");
        Edges.isAct("sub(0, 0, 1)", "abc", x -> x.sub(0, 0, 1), 3, "abc");
    }
}
