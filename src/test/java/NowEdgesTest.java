import java.util.stream.IntStream;

/** Promises 15 to 38 and 40 to 46 speak of the WORD that there is now: nothing is left over from one there was. */
public final class NowEdgesTest {
    private static final int NONE = Edges.NONE;
    private static final String FULL = "zaab".repeat(30);

    private NowEdgesTest() {
    }

    public static void main(String[] args) throws IllegalAccessException {
        int[] promises = IntStream.concat(IntStream.rangeClosed(15, 38), IntStream.rangeClosed(40, 46)).toArray();
        Edges.run(NowEdgesTest.class, promises);
    }

    /** One that is asked about a WORD of n letters. */
    private interface Question {
        int of(WordRuns x, int n);
    }

    /** The answers of one object behind whatever makes a WORD another one are those of a new object with that WORD. */
    private static void asItIsNow(Question... questions) {
        WordRuns x = new WordRuns();
        same("a new object", x, "", questions);
        Words.tell(x, "30('zaab')");
        x.keep(0);
        same("tell()", x, FULL, questions);
        String shorter = asLongThenShorter(x, questions);
        upAndDown(x, shorter, questions);
        x.back(0);
        same("back()", x, FULL, questions);
        x.drop(60);
        same("drop() behind back()", x, FULL.substring(0, 60) + FULL.substring(61), questions);
        Words.tell(x, "'q'");
        same("a second tell()", x, "q", questions);
    }

    private static String asLongThenShorter(WordRuns x, Question... questions) {
        x.put(119, 2);
        String word = FULL.substring(0, 119) + "c";
        same("put()", x, word, questions);
        x.rotate(3);
        word = word.substring(3) + word.substring(0, 3);
        same("rotate()", x, word, questions);
        x.turn(0, 61);
        word = new StringBuilder(word.substring(0, 61)).reverse() + word.substring(61);
        same("turn()", x, word, questions);
        x.drop(119);
        word = word.substring(0, 119);
        same("drop()", x, word, questions);
        x.only(54, 67);
        word = word.substring(54, 67);
        same("only()", x, word, questions);
        return word;
    }

    private static void upAndDown(WordRuns x, String shorter, Question... questions) {
        x.sub(0, 0, 2);
        String word = shorter.replace("a", shorter.substring(0, 2));
        same("sub()", x, word, questions);
        x.again(1, 4);
        word += word.substring(1, 4);
        same("again()", x, word, questions);
        x.insert(2, 25);
        same("insert()", x, word.substring(0, 2) + "z" + word.substring(2), questions);
        x.only(1, 1);
        same("only() of nothing", x, "", questions);
        x.undo();
        x.undo();
        same("undo()", x, word, questions);
    }

    private static void same(String call, WordRuns x, String word, Question... questions) {
        askTheRest(x);
        for (int at = 0; at < questions.length; at++) {
            int due = questions[at].of(Words.of(word), word.length());
            Check.due("question " + at + " of '" + word + "' behind " + call, questions[at].of(x, word.length()), due);
        }
    }

    /** What other questions leave behind must not count either. */
    private static void askTheRest(WordRuns x) {
        x.squares(0);
        x.change(1, 0);
        x.closed(0);
        x.gapped(1, 0);
        x.seed(NONE, 0);
        x.mirrors(4);
        x.mirrors(2);
        x.absent(0);
        x.ends(0, 0);
        x.cloak(1, 0);
        x.abel(0);
        x.bare(0);
    }

    // ---- PLACES, PARTS, ENDS ----

    static void promise15AsItIsNow() {
        asItIsNow((x, n) -> x.letter(0), (x, n) -> x.letter(n / 2), (x, n) -> x.letter(n - 1), (x, n) -> x.letter(n));
    }

    static void promise16AsItIsNow() {
        asItIsNow((x, n) -> x.border(0, n, NONE), (x, n) -> x.border(0, n, 0), (x, n) -> x.border(n / 2, n, 0));
    }

    static void promise17AsItIsNow() {
        asItIsNow((x, n) -> x.period(0, n, NONE), (x, n) -> x.period(0, n, 0), (x, n) -> x.period(n / 2, n, 1));
    }

    static void promise18AsItIsNow() {
        asItIsNow((x, n) -> x.root(0, n, 0), (x, n) -> x.root(0, n / 4 * 4, 1), (x, n) -> x.root(n / 3, n, 2));
    }

    static void promise19AsItIsNow() {
        asItIsNow((x, n) -> x.lyndon(true, NONE), (x, n) -> x.lyndon(true, 1), (x, n) -> x.lyndon(false, NONE),
            (x, n) -> x.lyndon(false, 1));
    }

    static void promise20AsItIsNow() {
        asItIsNow((x, n) -> x.longest(true, 0), (x, n) -> x.longest(true, n / 2), (x, n) -> x.longest(false, 0),
            (x, n) -> x.longest(false, n / 2));
    }

    static void promise25AsItIsNow() {
        asItIsNow((x, n) -> x.cover(0, n, NONE), (x, n) -> x.cover(0, n, 0), (x, n) -> x.cover(n / 2, n, 0));
    }

    static void promise28AsItIsNow() {
        asItIsNow((x, n) -> x.mirror(0, false), (x, n) -> x.mirror(n / 2, false), (x, n) -> x.mirror(n / 2, true),
            (x, n) -> x.mirror(n - 1, true));
    }

    static void promise34AsItIsNow() {
        asItIsNow((x, n) -> x.ends(0, 0), (x, n) -> x.ends(n / 2, 0), (x, n) -> x.ends(n - 1, 0),
            (x, n) -> x.ends(n / 2, 1), (x, n) -> x.ends(n, 0));
    }

    static void promise37AsItIsNow() {
        asItIsNow((x, n) -> x.lies(0, 1, NONE), (x, n) -> x.lies(n / 2, n, 0), (x, n) -> x.lies(0, 2, 1));
    }

    static void promise38AsItIsNow() {
        asItIsNow((x, n) -> x.compare(0, n, n / 2, n), (x, n) -> x.compare(0, n / 2, 1, n),
            (x, n) -> x.compare(n / 3, n / 2, n / 2, n));
    }

    static void promise45AsItIsNow() {
        asItIsNow((x, n) -> x.alike(0, n / 2), (x, n) -> x.alike(n - 1, 0), (x, n) -> x.alike(2, 6));
    }

    // ---- RUNS, powers, SEEDS, PHRASES ----

    static void promise21AsItIsNow() {
        asItIsNow((x, n) -> x.run(NONE, 0), (x, n) -> x.run(0, 0), (x, n) -> x.run(0, 1), (x, n) -> x.run(1, 2),
            (x, n) -> x.run(1, 3), (x, n) -> x.run(1, 4));
    }

    static void promise22AsItIsNow() {
        asItIsNow((x, n) -> x.runs(0), (x, n) -> x.runs(n / 2), (x, n) -> x.runs(n - 1));
    }

    static void promise23AsItIsNow() {
        asItIsNow((x, n) -> x.squares(0), (x, n) -> x.squares(1), (x, n) -> x.squares(2), (x, n) -> x.squares(3),
            (x, n) -> x.squares(4), (x, n) -> x.squares(5));
    }

    static void promise24AsItIsNow() {
        asItIsNow((x, n) -> x.power(1001), (x, n) -> x.power(2000), (x, n) -> x.power(3500));
    }

    static void promise26AsItIsNow() {
        asItIsNow((x, n) -> x.seed(NONE, 0), (x, n) -> x.seed(0, 0), (x, n) -> x.seed(0, 1), (x, n) -> x.seed(3, 0),
            (x, n) -> x.seed(3, 1));
    }

    static void promise27AsItIsNow() {
        asItIsNow((x, n) -> x.cloak(1, 0), (x, n) -> x.cloak(1, 1), (x, n) -> x.cloak(n / 2, 0),
            (x, n) -> x.cloak(n / 2, 1));
    }

    static void promise33AsItIsNow() {
        asItIsNow((x, n) -> x.phrase(NONE, 0), (x, n) -> x.phrase(2, 0), (x, n) -> x.phrase(2, 1),
            (x, n) -> x.phrase(3, 2));
    }

    static void promise43AsItIsNow() {
        asItIsNow((x, n) -> x.gapped(0, 0), (x, n) -> x.gapped(2, 0), (x, n) -> x.gapped(2, 1),
            (x, n) -> x.gapped(2, 2));
    }

    static void promise44AsItIsNow() {
        asItIsNow((x, n) -> x.change(0, 0), (x, n) -> x.change(n / 2, 0), (x, n) -> x.change(n / 2, 1),
            (x, n) -> x.change(n - 1, 1));
    }

    // ---- the whole WORD ----

    static void promise29AsItIsNow() {
        asItIsNow((x, n) -> x.mirrors(0), (x, n) -> x.mirrors(1), (x, n) -> x.mirrors(2), (x, n) -> x.mirrors(3),
            (x, n) -> x.mirrors(4));
    }

    static void promise30AsItIsNow() {
        asItIsNow((x, n) -> x.factors(NONE), (x, n) -> x.factors(1), (x, n) -> x.factors(3), (x, n) -> x.factors(n));
    }

    static void promise31AsItIsNow() {
        asItIsNow((x, n) -> x.bare(0), (x, n) -> x.bare(1));
    }

    static void promise32AsItIsNow() {
        asItIsNow((x, n) -> x.twice(false, 0), (x, n) -> x.twice(false, 1), (x, n) -> x.twice(false, 2),
            (x, n) -> x.twice(true, 0), (x, n) -> x.twice(true, 1), (x, n) -> x.twice(true, 2));
    }

    static void promise35AsItIsNow() {
        asItIsNow((x, n) -> x.abel(0), (x, n) -> x.abel(1), (x, n) -> x.abel(2));
    }

    static void promise36AsItIsNow() {
        asItIsNow((x, n) -> x.often(NONE), (x, n) -> x.often(0), (x, n) -> x.often(2), (x, n) -> x.often(25));
    }

    static void promise40AsItIsNow() {
        asItIsNow((x, n) -> x.closed(0), (x, n) -> x.closed(1), (x, n) -> x.closed(2));
    }

    static void promise41AsItIsNow() {
        asItIsNow((x, n) -> x.absent(0), (x, n) -> x.absent(1), (x, n) -> x.absent(2));
    }

    static void promise42AsItIsNow() {
        asItIsNow((x, n) -> x.special(0), (x, n) -> x.special(1), (x, n) -> x.special(3));
    }

    static void promise46AsItIsNow() {
        asItIsNow((x, n) -> x.count(0), (x, n) -> x.count(1), (x, n) -> x.count(5));
    }
}
