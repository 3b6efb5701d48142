/** The boundary cases of promises 1 to 3: a new object, feed, end. */
public final class TapeEdgesTest {
    private static final int NONE = Edges.NONE;

    private TapeEdgesTest() {
    }

    public static void main(String[] args) throws IllegalAccessException {
        Edges.run(TapeEdgesTest.class, 1, 2, 3);
    }

    /** A TAPE with so many bytes: the letters of a word between two signs 39, then blanks. */
    private static WordRuns tape(int bytes) {
        WordRuns x = new WordRuns();
        Words.feedText(x, Words.bytes("'ab'" + " ".repeat(bytes - 4)));
        return x;
    }

    private static int feed(WordRuns x) {
        return x.feed(0x27717127, 0, 0, 0, 0);
    }

    // ---- promise 1: "No letters." ----

    static void promise01NoLetters() {
        WordRuns x = new WordRuns();
        Check.due("letters", x.count(0), 0);
        Check.due("letter(0)", x.letter(0), NONE);
        Check.due("unlike letters", x.count(1), 0);
    }

    // "it has none at first", and nothing else is there at first either
    static void promise01NothingElse() {
        WordRuns x = new WordRuns();
        Check.due("ACTS", x.count(2), 0);
        Check.due("undo()", x.undo(), NONE);
        Check.due("bytes", x.count(3), 0);
        Check.due("SHELVES", x.count(4), 0);
        Check.due("back(0)", x.back(0), -2);
        Check.due("back(1)", x.back(1), -2);
        Check.due("EXPONENTS", x.count(5), 0);
    }

    static void promise01TheOnlyPartIsEmpty() {
        WordRuns x = new WordRuns();
        Check.due("border(0, 0, -1)", x.border(0, 0, NONE), 0);
        Check.due("border(0, 1, -1)", x.border(0, 1, NONE), NONE);
    }

    static void promise01ASecondObjectIsNewToo() {
        WordRuns first = Edges.full();
        first.keep(1);
        promise01NoLetters();
        promise01NothingElse();
        Check.due("letters of the first", first.count(0), 120);
    }

    // "An object is used for at most 512 calls": the last one of them still answers
    static void promise01The512thCall() {
        WordRuns x = new WordRuns();
        for (int call = 1; call <= 510; call++) {
            int want = call <= 120 ? call : -2;
            Check.due("call " + call, x.insert(0, call % 26), want);
        }
        Check.due("call 511", x.drop(0), 120 % 26);
        Check.due("call 512", x.undo(), 9);
    }

    // "NONE = -1"
    static void promise01TheConstant() {
        Check.due("NONE", WordRuns.NONE, -1);
    }

    // ---- promise 2: feed ----

    static void promise02TwentyBytesOnAnEmptyTape() {
        WordRuns x = new WordRuns();
        Check.due("feed", feed(x), 20);
        Check.due("bytes", x.count(3), 20);
        Check.due("feed", feed(x), 40);
        Check.due("bytes", x.count(3), 40);
    }

    // "of each number the highest first"
    static void promise02TheHighestFirst() {
        WordRuns x = new WordRuns();
        x.feed(0x27616263, 0x64656667, 0x68696a6b, 0x6c6d6e6f, 0x70717227);
        Check.due("tell()", x.tell(), 18);
        Edges.holds("tell()", x, "abcdefghijklmnopqr");
    }

    // the sign of a number is a bit as others are: bytes 0 to 255
    static void promise02NumbersBelowZero() {
        byte[] odd = {0, 127, (byte) 128, (byte) 255};
        for (byte each : odd) {
            for (int place = 0; place < 4; place++) {
                WordRuns x = new WordRuns();
                byte[] text = {32, 32, 32, 32};
                text[place] = each;
                Words.feedText(x, text);
                Check.due("a byte " + (each & 255) + " at " + place, x.tell(), -2 - (8 * place + 1));
            }
        }
        WordRuns x = new WordRuns();
        Check.due("feed of the greatest and least", x.feed(Edges.MAX, Edges.MIN, NONE, 0, 1), 20);
    }

    // "NONE, and none comes, if it would have more than 300": 300 are not more
    static void promise02UpTo300() {
        WordRuns x = tape(280);
        Check.due("feed to 300", feed(x), 300);
        Check.due("bytes", x.count(3), 300);
        WordRuns many = new WordRuns();
        for (int bytes = 20; bytes <= 300; bytes += 20) {
            Check.due("feed", feed(many), bytes);
        }
        Check.due("the sixteenth feed", feed(many), NONE);
    }

    static void promise02Beyond300() {
        Edges.nothingHappens("feed to 301", () -> tape(281), TapeEdgesTest::feed, NONE);
        Edges.nothingHappens("feed to 319", () -> tape(299), TapeEdgesTest::feed, NONE);
        Edges.nothingHappens("feed to 320", () -> tape(300), TapeEdgesTest::feed, NONE);
    }

    // "and none comes": not some of them either
    static void promise02NoneComes() {
        WordRuns x = tape(281);
        feed(x);
        Check.due("bytes", x.count(3), 281);
        Check.due("end(280)", x.end(280), 280);
        Check.due("feed to 300", feed(x), 300);
    }

    static void promise02BehindTheTape() {
        WordRuns x = new WordRuns();
        feed(x);
        x.end(3);
        Check.due("feed behind three bytes", x.feed(0x78277979, 0, 0, 0, 0), 23);
        x.end(5);
        x.tell();
        Edges.holds("tell()", x, "qqx");
        Check.due("feed behind tell()", feed(x), 20);
    }

    static void promise02NothingButTheTape() {
        WordRuns x = Edges.busy();
        x.end(0);
        feed(x);
        Check.due("ACTS", x.count(2), 5);
        Check.due("SHELVES", x.count(4), 3);
        Edges.holds("feed", x, "abcab");
    }

    // ---- promise 3: end ----

    // "The TAPE has its first n bytes alone: n"
    static void promise03AllOfThem() {
        WordRuns x = tape(20);
        Check.due("end(20)", x.end(20), 20);
        Check.due("bytes", x.count(3), 20);
        Check.due("tell()", x.tell(), 2);
        WordRuns most = tape(300);
        Check.due("end(300)", most.end(300), 300);
        Check.due("end(299)", most.end(299), 299);
        Check.due("bytes", most.count(3), 299);
    }

    static void promise03AllButTheLast() {
        WordRuns x = new WordRuns();
        Words.feedText(x, Words.bytes("'abc'"));
        Check.due("end(4)", x.end(4), 4);
        Check.due("bytes", x.count(3), 4);
        Check.due("tell()", x.tell(), -2 - (8 * 4 + 1));
    }

    static void promise03NoneOfThem() {
        WordRuns x = tape(20);
        Check.due("end(0)", x.end(0), 0);
        Check.due("bytes", x.count(3), 0);
        Check.due("tell()", x.tell(), -3);
        Check.due("end(0) of an empty TAPE", x.end(0), 0);
        Check.due("end(0) of a new object", new WordRuns().end(0), 0);
    }

    static void promise03TheFirstByte() {
        WordRuns x = tape(20);
        Check.due("end(1)", x.end(1), 1);
        Check.due("tell()", x.tell(), -2 - (8 + 1));
    }

    // "NONE, and nothing happens, if it has not so many"
    static void promise03NotSoMany() {
        Edges.nothingHappens("end(6) of 5", Edges::busy, x -> x.end(6), NONE);
        Edges.nothingHappens("end(MAX)", Edges::busy, x -> x.end(Edges.MAX), NONE);
        Edges.nothingHappens("end(301) of 300", () -> tape(300), x -> x.end(301), NONE);
        Edges.nothingHappens("end(1) of none", WordRuns::new, x -> x.end(1), NONE);
    }

    // "or n is below 0"
    static void promise03BelowNone() {
        Edges.nothingHappens("end(-1)", Edges::busy, x -> x.end(-1), NONE);
        Edges.nothingHappens("end(-2)", Edges::busy, x -> x.end(-2), NONE);
        Edges.nothingHappens("end(MIN)", Edges::busy, x -> x.end(Edges.MIN), NONE);
        Edges.nothingHappens("end(-1) of none", WordRuns::new, x -> x.end(-1), NONE);
    }

    // what is behind the n-th byte does not come back
    static void promise03AFurtherEndAsksWhatIsLeft() {
        WordRuns x = tape(20);
        x.end(7);
        Check.due("end(8)", x.end(8), NONE);
        Check.due("end(7)", x.end(7), 7);
        Check.due("bytes", x.count(3), 7);
    }

    static void promise03NothingButTheTape() {
        Edges.same("end(0) and five bytes more", () -> {
            WordRuns x = Edges.busy();
            x.end(0);
            Words.feedText(x, Words.bytes("'qrs'"));
            return x;
        }, Edges::busy);
    }
}
