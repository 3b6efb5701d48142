/** The boundary cases of promises 12 to 14: undo, keep, back. */
public final class KeptEdgesTest {
    private static final int NONE = Edges.NONE;
    private static final int REFUSED = Edges.REFUSED;

    private KeptEdgesTest() {
    }

    public static void main(String[] args) throws IllegalAccessException {
        Edges.run(KeptEdgesTest.class, 12, 13, 14);
    }

    /** Behind so many ACTS, each of which puts the next letter at the end. */
    private static WordRuns behind(int acts) {
        WordRuns x = new WordRuns();
        for (int act = 0; act < acts; act++) {
            x.insert(act, act % 26);
        }
        return x;
    }

    private static String alphabet(int letters) {
        return "abcdefghijklmnopqrstuvwxyzabcdefghijklmnopqrstuvwxyz".substring(0, letters);
    }

    // ---- promise 12: undo ----

    // "NONE, and nothing happens, if none can"
    static void promise12NothingHappensIfNoneCan() {
        Edges.nothingHappens("undo() of a new object", WordRuns::new, WordRuns::undo, NONE);
        Edges.nothingHappens("undo() of a told word", () -> {
            WordRuns x = Words.of("abc");
            x.keep(0);
            Words.feedText(x, Words.bytes("'q'"));
            return x;
        }, WordRuns::undo, NONE);
        Edges.nothingHappens("undo() behind the last", () -> {
            WordRuns x = behind(1);
            x.undo();
            return x;
        }, WordRuns::undo, NONE);
    }

    // "how many more can be": 0 behind the only one
    static void promise12TheOnlyOne() {
        WordRuns x = behind(1);
        Check.due("undo()", x.undo(), 0);
        Edges.holds("undo()", x, "");
        Check.due("ACTS", x.count(2), 0);
    }

    // "The last 10 can be UNDONE": all of nine, of ten, not all of eleven
    static void promise12NineTenEleven() {
        for (int acts : new int[] {9, 10, 11, 12, 20, 25}) {
            WordRuns x = behind(acts);
            int can = Math.min(10, acts);
            Check.due("ACTS behind " + acts, x.count(2), can);
            for (int left = can - 1; left >= 0; left--) {
                Check.due("undo() behind " + acts, x.undo(), left);
                Edges.holds("undo() with " + left + " left", x, alphabet(acts - can + left));
            }
            Check.due("undo() of none behind " + acts, x.undo(), NONE);
            Edges.holds("undo() of none", x, alphabet(acts - can));
        }
    }

    // "the last first", also round the place where ten are full
    static void promise12TheLastFirstAfterSomeUndone() {
        WordRuns x = behind(13);
        x.undo();
        x.undo();
        x.undo();
        x.put(0, 25);
        x.put(1, 25);
        Check.due("ACTS", x.count(2), 9);
        Check.due("undo()", x.undo(), 8);
        Edges.holds("undo()", x, "zbcdefghij");
        Check.due("undo()", x.undo(), 7);
        Edges.holds("undo()", x, "abcdefghij");
        Check.due("undo()", x.undo(), 6);
        Edges.holds("undo()", x, "abcdefghi");
    }

    // what is UNDONE is no ACT and does not come back
    static void promise12UndoIsNoAct() {
        WordRuns x = behind(3);
        x.undo();
        Check.due("ACTS", x.count(2), 2);
        Check.due("undo()", x.undo(), 1);
        Check.due("undo()", x.undo(), 0);
        Check.due("undo()", x.undo(), NONE);
    }

    // an ACT to no letters and one to 120 of them
    static void promise12ToNoLettersAndTo120() {
        WordRuns x = Words.of(Edges.FULL);
        x.only(0, 0);
        x.insert(0, 3);
        Check.due("undo()", x.undo(), 1);
        Edges.holds("undo() to none", x, "");
        Check.due("undo()", x.undo(), 0);
        Edges.holds("undo() to 120", x, Edges.FULL);
    }

    // a call that is refused is no ACT
    static void promise12RefusedCallsAreNoActs() {
        WordRuns x = behind(10);
        x.put(0, 0);
        x.put(10, 0);
        x.insert(11, 0);
        x.drop(10);
        x.turn(0, 1);
        x.again(0, 0);
        x.rotate(0);
        x.only(0, 10);
        x.sub(25, 0, 1);
        Check.due("ACTS", x.count(2), 10);
        for (int left = 9; left >= 0; left--) {
            Check.due("undo()", x.undo(), left);
        }
        Edges.holds("undo() of all", x, "");
    }

    // SHELVES and the TAPE are not what an ACT changes
    static void promise12ShelvesAndTheTapeStay() {
        WordRuns x = behind(2);
        x.keep(0);
        Words.feedText(x, Words.bytes("'q'"));
        x.undo();
        Check.due("SHELVES", x.count(4), 1);
        Check.due("bytes", x.count(3), 3);
        Check.due("back(0)", x.back(0), 2);
        Edges.holds("back(0)", x, "ab");
    }

    // ---- promise 13: keep ----

    // "SHELVES 0, 1"
    static void promise13BothShelves() {
        WordRuns x = Words.of("abc");
        Check.due("keep(0)", x.keep(0), 3);
        Check.due("SHELVES", x.count(4), 1);
        x.drop(0);
        Check.due("keep(1)", x.keep(1), 2);
        Check.due("SHELVES", x.count(4), 3);
        Check.due("back(0)", x.back(0), 3);
        Check.due("back(1)", x.back(1), 2);
    }

    // "NONE, and nothing happens, without that SHELF"
    static void promise13NothingHappensWithoutTheShelf() {
        for (int shelf : new int[] {-1, 2, 3, 31, 32, 33, 64, Edges.MAX, Edges.MIN}) {
            Edges.nothingHappens("keep(" + shelf + ")", Edges::busy, x -> x.keep(shelf), NONE);
            Edges.nothingHappens("keep(" + shelf + ") of a new object", WordRuns::new, x -> x.keep(shelf), NONE);
        }
    }

    // "how many letters": none and 120
    static void promise13NoLettersAnd120() {
        WordRuns x = new WordRuns();
        Check.due("keep(1) without letters", x.keep(1), 0);
        Check.due("SHELVES", x.count(4), 2);
        Words.tell(x, "60('ab')");
        Check.due("keep(0) of 120", x.keep(0), 120);
        Check.due("back(1)", x.back(1), 0);
        Edges.holds("back(1)", x, "");
        Check.due("back(0)", x.back(0), 120);
        Edges.holds("back(0)", x, "ab".repeat(60));
    }

    // a SHELF on which something is KEPT gets another word, the other SHELF does not
    static void promise13AFullShelfOnceMore() {
        WordRuns x = Words.of("abcd");
        x.keep(0);
        x.keep(1);
        x.only(1, 2);
        Check.due("keep(0)", x.keep(0), 1);
        Check.due("back(1)", x.back(1), 4);
        Edges.holds("back(1)", x, "abcd");
        Check.due("back(0)", x.back(0), 1);
        Edges.holds("back(0)", x, "b");
    }

    static void promise13KeepIsNoAct() {
        WordRuns x = behind(2);
        x.keep(0);
        Check.due("ACTS", x.count(2), 2);
        Check.due("undo()", x.undo(), 1);
        Edges.holds("undo()", x, "a");
    }

    // "all but TAPE, SHELVES"
    static void promise13TheTapeIsNotKept() {
        WordRuns x = Words.of("abc");
        Words.feedText(x, Words.bytes("'q'"));
        x.keep(0);
        Check.due("bytes", x.count(3), 3);
        x.end(1);
        x.back(0);
        Check.due("bytes behind back(0)", x.count(3), 1);
    }

    // ---- promise 14: back ----

    static void promise14BothShelves() {
        WordRuns x = Edges.busy();
        Check.due("back(1)", x.back(1), 3);
        Edges.holds("back(1)", x, "xyz");
        Check.due("back(0)", x.back(0), 3);
        Edges.holds("back(0)", x, "bca");
    }

    // "NONE, and nothing happens, without that SHELF"
    static void promise14NothingHappensWithoutTheShelf() {
        for (int shelf : new int[] {-1, 2, 3, 31, 32, 33, 64, Edges.MAX, Edges.MIN}) {
            Edges.nothingHappens("back(" + shelf + ")", Edges::busy, x -> x.back(shelf), NONE);
        }
    }

    // "-2: nothing is KEPT"; nothing happens to the rest then
    static void promise14NothingIsKept() {
        Edges.nothingHappens("back(0)", WordRuns::new, x -> x.back(0), REFUSED);
        Edges.nothingHappens("back(1)", WordRuns::new, x -> x.back(1), REFUSED);
        Edges.nothingHappens("back(1) beside the other", Edges::full, x -> x.back(1), REFUSED);
        Edges.nothingHappens("back(0) beside the other", Edges::without, x -> x.back(0), REFUSED);
    }

    // "Where NONE and another answer fit, it is NONE": on a SHELF that is none nothing is KEPT either
    static void promise14NoneAheadOfNothingKept() {
        Check.due("back(2)", new WordRuns().back(2), NONE);
        Check.due("back(-1)", new WordRuns().back(-1), NONE);
    }

    // "how many letters": none is not nothing
    static void promise14NoLettersAreKept() {
        WordRuns x = new WordRuns();
        x.keep(0);
        Words.tell(x, "'abc'");
        Check.due("back(0)", x.back(0), 0);
        Edges.holds("back(0)", x, "");
        Check.due("back(0) once more", x.back(0), 0);
    }

    static void promise14All120Letters() {
        WordRuns x = Words.of(Edges.FULL);
        x.keep(1);
        x.only(0, 0);
        Check.due("back(1)", x.back(1), 120);
        Edges.holds("back(1)", x, Edges.FULL);
    }

    // "(nothing can be UNDONE then)": not what was done ahead of keep(), not what was done behind it
    static void promise14NothingCanBeUndoneThen() {
        WordRuns x = behind(10);
        x.keep(0);
        x.drop(0);
        x.back(0);
        Check.due("ACTS", x.count(2), 0);
        Check.due("undo()", x.undo(), NONE);
        Edges.holds("undo()", x, "abcdefghij");
    }

    static void promise14NothingCanBeUndoneOfTheSameWord() {
        WordRuns x = behind(1);
        x.keep(0);
        Check.due("back(0)", x.back(0), 1);
        Check.due("undo()", x.undo(), NONE);
        Edges.holds("undo()", x, "a");
    }

    // "SHELVES 0, 1: all but TAPE, SHELVES": they are as they are now
    static void promise14TheTapeAndShelvesStay() {
        WordRuns x = Words.of("abc");
        x.keep(0);
        x.drop(0);
        x.keep(1);
        Words.feedText(x, Words.bytes("'q'"));
        x.back(0);
        Check.due("SHELVES", x.count(4), 3);
        Check.due("bytes", x.count(3), 3);
        Check.due("back(1)", x.back(1), 2);
        Edges.holds("back(1)", x, "bc");
        Check.due("back(0)", x.back(0), 3);
        Edges.holds("back(0)", x, "abc");
        Check.due("tell()", x.tell(), 1);
    }

    // back() is no ACT, and ACTS behind it can be UNDONE
    static void promise14ActsBehindIt() {
        WordRuns x = Words.of("abc");
        x.keep(0);
        x.back(0);
        x.put(0, 25);
        Check.due("undo()", x.undo(), 0);
        Edges.holds("undo()", x, "abc");
        Check.due("back(0)", x.back(0), 3);
        Edges.holds("back(0)", x, "abc");
    }
}
