/** The boundary cases of promise 4 and of the TEXTS that tell() reads. */
public final class TextEdgesTest {
    private static final int CANNOT_STAND = Texts.CANNOT_STAND;
    private static final int NUMBER_WRONG = Texts.NUMBER_WRONG;
    private static final int TOO_MANY = Texts.TOO_MANY;
    private static final int TOO_DEEP = Texts.TOO_DEEP;

    private static final String FULL_ROW = "60('yz')";
    private static final String FULL_WORD = "yz".repeat(60);
    private static final String FOUR_NAMES = "let a='a';let b='b';let c='c';let d='d';";
    private static final String SIX_OPEN = "1(1(1(1(1(1(";
    private static final String SIX_CLOSED = "))))))";

    private TextEdgesTest() {
    }

    public static void main(String[] args) throws IllegalAccessException {
        Edges.run(TextEdgesTest.class, 4);
    }

    private static void told(String text, String word) {
        Texts.told(text, word);
    }

    private static void faulty(String text, int place, int kind) {
        Texts.faulty(text, place, kind);
    }

    private static WordRuns busyWith(String text) {
        WordRuns x = Edges.busy();
        x.end(0);
        Words.feedText(x, Words.bytes(text));
        return x;
    }

    private static int open(String text) {
        return text.lastIndexOf('(');
    }

    // ---- tell() itself ----

    // "The TAPE, which is empty then"
    static void promise04TheTapeIsEmptyThen() {
        WordRuns told = busyWith("'ab'");
        Check.due("tell()", told.tell(), 2);
        Check.due("bytes behind a word", told.count(3), 0);
        WordRuns faulty = busyWith("'ab");
        Check.due("tell()", faulty.tell(), -2 - (8 * 3 + CANNOT_STAND));
        Check.due("bytes behind a FAULT", faulty.count(3), 0);
        Check.due("tell() once more", faulty.tell(), -3);
        Check.due("feed behind it", faulty.feed(0, 0, 0, 0, 0), 20);
    }

    // "but for the TAPE nothing happens"
    static void promise04AFaultChangesButTheTape() {
        String[] texts = {"", "'ab", "61('a')", "'q'fib 11", "let a='a';", SIX_OPEN + "1('q')" + SIX_CLOSED};
        for (String text : texts) {
            Edges.same("tell() of " + text, () -> {
                WordRuns x = busyWith(text);
                x.tell();
                return x;
            }, () -> busyWith(""));
        }
    }

    static void promise04AFaultChangesNoFullWord() {
        Edges.same("tell() of a FAULT", () -> {
            WordRuns x = Edges.full();
            x.end(4);
            x.tell();
            return x;
        }, () -> {
            WordRuns x = Edges.full();
            x.end(0);
            return x;
        });
    }

    // "tells a WORD in place of the one there was"
    static void promise04InPlaceOfTheOneThereWas() {
        WordRuns x = Words.of(Edges.FULL);
        Check.due("tell() of one letter", Words.tell(x, "'q'"), 1);
        Edges.holds("one letter", x, "q");
        Check.due("tell() of none", Words.tell(x, "0('q')"), 0);
        Edges.holds("no letters", x, "");
        Check.due("tell() of 120", Words.tell(x, FULL_ROW), 120);
        Edges.holds("120 letters", x, FULL_WORD);
    }

    // "nothing can be UNDONE", be it one ACT or ten, and be the told word the same
    static void promise04NothingCanBeUndone() {
        WordRuns one = Words.of("ab");
        one.put(0, 5);
        Words.tell(one, "'fb'");
        Check.due("ACTS", one.count(2), 0);
        Check.due("undo()", one.undo(), Edges.NONE);
        Edges.holds("undo()", one, "fb");
        WordRuns ten = new WordRuns();
        for (int act = 0; act < 11; act++) {
            ten.insert(0, act);
        }
        Words.tell(ten, "0('q')");
        Check.due("undo() behind ten", ten.undo(), Edges.NONE);
        Edges.holds("undo() behind ten", ten, "");
    }

    // "SHELVES stay"
    static void promise04ShelvesStay() {
        WordRuns x = busyWith("'w'");
        x.tell();
        Check.due("SHELVES", x.count(4), 3);
        Check.due("back(0)", x.back(0), 3);
        Edges.holds("back(0)", x, "bca");
        Check.due("back(1)", x.back(1), 3);
        Edges.holds("back(1)", x, "xyz");
    }

    // "how many letters": "120 at most"
    static void promise04HowManyLetters() {
        told("0('q')", "");
        told("'q'", "q");
        told("59('yz')'y'", "yz".repeat(59) + "y");
        told(FULL_ROW, FULL_WORD);
        faulty(FULL_ROW + "'q'", FULL_ROW.length(), TOO_MANY);
    }

    // "-2 - its FAULT": the least one and one at the farthest place
    static void promise04TheLeastAndTheGreatestFault() {
        Check.due("the least", new WordRuns().tell(), -3);
        Check.due("at place 300", Words.tell(new WordRuns(), "'" + "q".repeat(299)), -2 - (8 * 300 + 1));
    }

    // ---- "A TEXT of at most 300 bytes" ----

    static void promise04ATextOf300Bytes() {
        told("'a'" + " ".repeat(297), "a");
        told(" ".repeat(297) + "'a'", "a");
        told(" ".repeat(296) + "'a'", "a");
    }

    // what a longer TAPE held before does not come back
    static void promise04BytesBehindTheTapeAreNoText() {
        WordRuns x = new WordRuns();
        Words.feedText(x, Words.bytes("'abc''d'"));
        x.end(5);
        Check.due("tell()", x.tell(), 3);
        Words.feedText(x, Words.bytes("'z"));
        Check.due("tell()", x.tell(), -2 - (8 * 2 + CANNOT_STAND));
    }

    // "{ let NAME = ROW ; } ROW": none of them and four
    static void promise04NoLetAndFourLets() {
        told("'q'", "q");
        told(FOUR_NAMES + "a b c d", "abcd");
    }

    static void promise04ARowBehindTheLets() {
        faulty("let a='w';", 10, CANNOT_STAND);
        faulty("let a='w';  ", 12, CANNOT_STAND);
        faulty("let a='w';;", 10, CANNOT_STAND);
        told("let a='w';a", "w");
    }

    static void promise04NoLetBehindAnItem() {
        faulty("'q'let a='w';a", 3, CANNOT_STAND);
        faulty("2(let a='w';a)", 2, CANNOT_STAND);
        faulty("let a=let b='w';b;a", 6, CANNOT_STAND);
    }

    static void promise04EachSignOfALet() {
        faulty("let='w';'q'", 3, CANNOT_STAND);
        faulty("let a'w';'q'", 5, CANNOT_STAND);
        faulty("let a;'q'", 5, CANNOT_STAND);
        faulty("let a=='w';'q'", 6, CANNOT_STAND);
        faulty("let a='w')'q'", 9, CANNOT_STAND);
        faulty("let a='w'='q'", 9, CANNOT_STAND);
    }

    // ---- "ROW: ITEM { ITEM }" ----

    static void promise04ARowWithoutItems() {
        faulty("", 0, CANNOT_STAND);
        faulty(" ", 1, CANNOT_STAND);
        faulty("let a=;'q'", 6, CANNOT_STAND);
        faulty("2()", 2, CANNOT_STAND);
        faulty("rev( )", 5, CANNOT_STAND);
    }

    static void promise04ARowOfOneItemAndOfMany() {
        told("'a'", "a");
        told("'a'".repeat(100), "a".repeat(100));
        told("0('a')".repeat(50), "");
    }

    // ---- "' letters ' (one or more small letters right behind one another between two signs 39)" ----

    static void promise04NoLettersOneLetterAndMost() {
        faulty("''", 1, CANNOT_STAND);
        faulty("'a'''", 4, CANNOT_STAND);
        told("'a'", "a");
        told("'" + FULL_WORD + "'", FULL_WORD);
        faulty("'" + FULL_WORD + "y'", 0, TOO_MANY);
    }

    static void promise04LettersRightBehindOneAnother() {
        faulty("'a b'", 2, CANNOT_STAND);
        faulty("' ab'", 1, CANNOT_STAND);
        faulty("'ab '", 3, CANNOT_STAND);
        faulty("' '", 1, CANNOT_STAND);
    }

    // "letters a to z (0 to 25)": 97 to 122, not 96, not 123
    static void promise04LettersFromAToZ() {
        WordRuns x = Words.of("az");
        Check.due("a", x.letter(0), 0);
        Check.due("z", x.letter(1), 25);
        faulty("'`'", 1, CANNOT_STAND);
        faulty("'{'", 1, CANNOT_STAND);
        faulty("'a`'", 2, CANNOT_STAND);
        faulty("'z{'", 2, CANNOT_STAND);
        faulty("'A'", 1, CANNOT_STAND);
        faulty("'Z'", 1, CANNOT_STAND);
        faulty("'1'", 1, CANNOT_STAND);
    }

    static void promise04TwoSigns39() {
        faulty("'", 1, CANNOT_STAND);
        faulty("'ab", 3, CANNOT_STAND);
        faulty("'ab(", 3, CANNOT_STAND);
        faulty("'ab&", 3, CANNOT_STAND);
        faulty("&ab'", 0, CANNOT_STAND);
        faulty("(ab'", 0, CANNOT_STAND);
        faulty("ab'", 0, CANNOT_STAND);
    }

    // ---- "NUMBER ( ROW ) (so many times)", "NUMBERS: of times 0 to 60" ----

    static void promise04NoTimes() {
        told("0('ab')", "");
        told("'x'0('ab')'y'", "xy");
        told("0(0('ab'))", "");
    }

    static void promise04OneTime() {
        told("1('ab')", "ab");
    }

    static void promise04SixtyTimes() {
        told("59('ab')", "ab".repeat(59));
        told("60('ab')", "ab".repeat(60));
        told("60(0('ab'))", "");
        told("60(fib 1)", "a".repeat(60));
    }

    static void promise04SixtyOneTimes() {
        faulty("61('a')", 0, NUMBER_WRONG);
        faulty("61(0('a'))", 0, NUMBER_WRONG);
        faulty("'a' 61('a')", 4, NUMBER_WRONG);
        faulty("100('a')", 0, NUMBER_WRONG);
    }

    // a wrap-around of int or long would come to 0 or 1 times
    static void promise04NumbersThatWrapAround() {
        faulty("4294967296('a')", 0, NUMBER_WRONG);
        faulty("4294967297('a')", 0, NUMBER_WRONG);
        faulty("2147483648('a')", 0, NUMBER_WRONG);
        faulty("18446744073709551616('a')", 0, NUMBER_WRONG);
        faulty("18446744073709551617('a')", 0, NUMBER_WRONG);
        faulty("1" + "0".repeat(280) + "('a')", 0, NUMBER_WRONG);
        faulty("fib 4294967296", 4, NUMBER_WRONG);
        faulty("morse 4294967296", 6, NUMBER_WRONG);
        faulty("9".repeat(300), 0, NUMBER_WRONG);
    }

    static void promise04TimesWithoutItsBrackets() {
        faulty("2", 1, CANNOT_STAND);
        faulty("2'a'", 1, CANNOT_STAND);
        faulty("2)", 1, CANNOT_STAND);
        faulty("2(", 2, CANNOT_STAND);
        faulty("2('a'", 5, CANNOT_STAND);
        faulty("2('a';", 5, CANNOT_STAND);
        faulty("2('a'))", 6, CANNOT_STAND);
    }

    // ---- "rev ( ROW ) (from its end on)" ----

    static void promise04RevOfNoneOneAndAll() {
        told("rev(0('a'))", "");
        told("rev('a')", "a");
        told("rev('ab')", "ba");
        told("rev('abc')", "cba");
        told("rev(" + FULL_ROW + ")", "zy".repeat(60));
        told("'x'rev('ab')'y'", "xbay");
    }

    static void promise04RevWithoutItsBrackets() {
        faulty("rev", 3, CANNOT_STAND);
        faulty("rev'a'", 3, CANNOT_STAND);
        faulty("rev 2('a')", 4, CANNOT_STAND);
        faulty("rev(", 4, CANNOT_STAND);
        faulty("rev('a'", 7, CANNOT_STAND);
        faulty("rev('a'))", 8, CANNOT_STAND);
    }

    // ---- "fib NUMBER", "of fib 0 to 20" ----

    static void promise04TheFirstFibs() {
        told("fib 0", "b");
        told("fib 1", "a");
        told("fib 2", "ab");
        told("fib 3", "aba");
        told("fib 4", "abaab");
    }

    static void promise04TheLastFibThatFits() {
        told("fib 10", Words.fib(10));
        faulty("fib 11", 0, TOO_MANY);
    }

    static void promise04Fib20AndFib21() {
        faulty("fib 19", 0, TOO_MANY);
        faulty("fib 20", 0, TOO_MANY);
        faulty("fib 21", 4, NUMBER_WRONG);
        faulty("0(fib 20)", 2, TOO_MANY);
        faulty("0(fib 21)", 6, NUMBER_WRONG);
    }

    static void promise04FibWithoutItsNumber() {
        faulty("fib", 3, CANNOT_STAND);
        faulty("fib ", 4, CANNOT_STAND);
        faulty("fib'a'", 3, CANNOT_STAND);
        faulty("fib(1)", 3, CANNOT_STAND);
        faulty("fib x", 4, CANNOT_STAND);
        faulty("fib-1", 3, CANNOT_STAND);
    }

    // ---- "morse NUMBER", "of morse 0 to 8" ----

    static void promise04TheFirstMorses() {
        told("morse 0", "a");
        told("morse 1", "ab");
        told("morse 2", "abba");
        told("morse 3", "abbabaab");
    }

    static void promise04TheLastMorseThatFits() {
        told("morse 6", Words.morse(6));
        faulty("morse 7", 0, TOO_MANY);
    }

    static void promise04Morse8AndMorse9() {
        faulty("morse 8", 0, TOO_MANY);
        faulty("morse 9", 6, NUMBER_WRONG);
        faulty("0(morse 8)", 2, TOO_MANY);
        faulty("0(morse 9)", 8, NUMBER_WRONG);
    }

    static void promise04MorseWithoutItsNumber() {
        faulty("morse", 5, CANNOT_STAND);
        faulty("morse  ", 7, CANNOT_STAND);
        faulty("morse'a'", 5, CANNOT_STAND);
        faulty("morse(1)", 5, CANNOT_STAND);
        faulty("morse x", 6, CANNOT_STAND);
    }

    // ---- "NAME (told ahead; it stands for its ROW; told again: the later one from there on)" ----

    static void promise04ANameThatIsNotToldAhead() {
        faulty("x", 0, CANNOT_STAND);
        faulty("'a' x", 4, CANNOT_STAND);
        faulty("let x='a';y", 10, CANNOT_STAND);
        faulty("let x=y;let y='a';x", 6, CANNOT_STAND);
        faulty("let x=x;x", 6, CANNOT_STAND);
        faulty("let x='a'x;x", 9, CANNOT_STAND);
    }

    static void promise04ANameOfNoLetters() {
        told("let x=0('a');x", "");
        told("let x=0('a');'b'x'c'", "bc");
    }

    static void promise04ANameOf120Letters() {
        told("let x=" + FULL_ROW + ";x", FULL_WORD);
        told("let x=" + FULL_ROW + ";let y=rev(x);let z=y;let w=z;w", "zy".repeat(60));
        told("let x=" + FULL_ROW + ";'a'", "a");
    }

    static void promise04ANameToldAgain() {
        told("let x='a';let x='b';x", "b");
        told("let x='a';let y=x;let x='b';y x", "ab");
        told("let x='a';let x=x'b';x", "ab");
        told("let x='abc';let x='d';x x", "dd");
    }

    // a NAME is of one TEXT alone
    static void promise04NamesOfAnEarlierText() {
        WordRuns x = new WordRuns();
        Check.due("told", Words.tell(x, "let x='a';x"), 1);
        Check.due("not told in this one", Words.tell(x, "x"), -3);
        Check.due("told up to a FAULT", Words.tell(x, "let y='a';)"), -2 - (8 * 10 + CANNOT_STAND));
        Check.due("not told in this one", Words.tell(x, "y"), -3);
        Check.due("four others", Words.tell(x, FOUR_NAMES + "d"), 1);
        Check.due("and four others", Words.tell(x, "let e='e';let f='f';let g='g';let h='h';h"), 1);
        Check.due("the last of them alone", Words.tell(x, "let h='i';e"), -2 - (8 * 10 + CANNOT_STAND));
    }

    // ---- "NAME: 1 to 3 small letters, none of let, rev, fib; 4 NAMES at most" ----

    static void promise04ANameHasOneToThreeLetters() {
        faulty("let ='w';'q'", 4, CANNOT_STAND);
        told("let a='w';a", "w");
        told("let ab='w';ab", "w");
        told("let abc='w';abc", "w");
        faulty("let abcd='w';abcd", 4, CANNOT_STAND);
        faulty("let morse='w';'q'", 4, CANNOT_STAND);
        faulty("let abcdefgh='w';'q'", 4, CANNOT_STAND);
    }

    static void promise04ANameHasSmallLetters() {
        told("let aaz='w';aaz", "w");
        faulty("let A='w';'q'", 4, CANNOT_STAND);
        faulty("let a1='w';'q'", 5, CANNOT_STAND);
        faulty("let 1='w';'q'", 4, CANNOT_STAND);
        faulty("let 'a'='w';'q'", 4, CANNOT_STAND);
    }

    static void promise04NoneOfLetRevFib() {
        faulty("let let='w';'q'", 4, CANNOT_STAND);
        faulty("let rev='w';'q'", 4, CANNOT_STAND);
        faulty("let fib='w';'q'", 4, CANNOT_STAND);
    }

    static void promise04NamesMuchLikeThem() {
        told("let le='a';let lea='b';let lev='c';let lef='d';le lea lev lef", "abcd");
        told("let re='a';let fi='b';let rex='c';let fia='d';re fi rex fia", "abcd");
        told("let mor='a';let tel='b';let ver='c';let bif='d';mor tel ver bif", "abcd");
    }

    static void promise04NamesThatBeginAlike() {
        told("let a='b';let aa='c';let aaa='d';let z='e';a aa aaa z", "bcde");
        faulty("let a='b';aa", 10, CANNOT_STAND);
        faulty("let aa='b';a", 11, CANNOT_STAND);
        faulty("let aaa='b';aaaa", 12, CANNOT_STAND);
    }

    static void promise04FourNames() {
        told(FOUR_NAMES + "a b c d", "abcd");
        told(FOUR_NAMES + "let a='e';let d='f';a b c d", "ebcf");
    }

    // "3 the first byte .. of a fifth NAME"
    static void promise04AFifthName() {
        faulty(FOUR_NAMES + "let e='e';'q'", FOUR_NAMES.length() + 4, TOO_MANY);
        faulty(FOUR_NAMES + "let   eee='e';'q'", FOUR_NAMES.length() + 6, TOO_MANY);
        faulty("let x='a';let x='b';" + "let b='b';let c='c';let d='d';let e='e';e", 54, TOO_MANY);
    }

    // it is met ahead of all that comes behind it
    static void promise04AFifthNameIsMetAtOnce() {
        faulty(FOUR_NAMES + "let e", FOUR_NAMES.length() + 4, TOO_MANY);
        faulty(FOUR_NAMES + "let e)", FOUR_NAMES.length() + 4, TOO_MANY);
        faulty(FOUR_NAMES + "let e=61('a');e", FOUR_NAMES.length() + 4, TOO_MANY);
    }

    // ---- "WORDS are small letters, NUMBERS digits, as far as they go on; blanks (32) stand between as one likes" ----

    static void promise04WordsAsFarAsTheyGoOn() {
        faulty("letx='a';x", 0, CANNOT_STAND);
        faulty("revx('a')", 0, CANNOT_STAND);
        faulty("fibx", 0, CANNOT_STAND);
        faulty("let x='a';xx", 10, CANNOT_STAND);
        faulty("let a='a';" + "a".repeat(6), 10, CANNOT_STAND);
        faulty("let a='a';" + "a".repeat(290), 10, CANNOT_STAND);
        faulty("let x='a';xrev('a')", 10, CANNOT_STAND);
        told("let x='a';x x", "aa");
    }

    static void promise04NumbersAsFarAsTheyGoOn() {
        told("12('ab')", "ab".repeat(12));
        faulty("1 2('ab')", 2, CANNOT_STAND);
        faulty("fib 1 2", 7, CANNOT_STAND);
        told("fib 1 2('b')", "abb");
        faulty("fib 12('b')", 0, TOO_MANY);
        faulty("fib 22('b')", 4, NUMBER_WRONG);
    }

    static void promise04NoBlanksAndMany() {
        told("2('a'fib2'b')morse1", "aabbaabbab");
        told("  2  (  'a'  fib  2  'b'  )  morse  1  ", "aabbaabbab");
        told("let x='a';rev(x)", "a");
        told("  let  x  =  'a'  ;  rev  (  x  )  ", "a");
    }

    // "blanks (32)": not 31, not 33, none of the other signs that show nothing
    static void promise04OtherBytesAreNoBlanks() {
        faulty("'a'\u001f", 3, CANNOT_STAND);
        faulty("'a'!", 3, CANNOT_STAND);
        faulty("'a'\t", 3, CANNOT_STAND);
        faulty("'a'\n", 3, CANNOT_STAND);
        faulty("'a'\u0000", 3, CANNOT_STAND);
        faulty("'a'\u00a0", 3, CANNOT_STAND);
    }

    // digits are 48 to 57
    static void promise04TheBytesBesideTheDigits() {
        told("09('a')", "aaaaaaaaa");
        faulty("/('a')", 0, CANNOT_STAND);
        faulty(":('a')", 0, CANNOT_STAND);
        faulty("1/('a')", 1, CANNOT_STAND);
        faulty("1:('a')", 1, CANNOT_STAND);
    }

    // ---- "8 times its place (0 the first byte)", "or the text ends (the place behind its last byte)" ----

    static void promise04AFaultOfTheFirstByte() {
        for (char first : new char[] {'(', ')', ';', '=', 'A', '`', '{', '~', 0, 255}) {
            faulty(first + "'a'", 0, CANNOT_STAND);
        }
    }

    static void promise04AFaultOfTheLastByte() {
        faulty("'a')", 3, CANNOT_STAND);
        faulty("'a'" + " ".repeat(296) + ")", 299, CANNOT_STAND);
    }

    static void promise04TheTextEnds() {
        faulty("", 0, CANNOT_STAND);
        faulty("'a", 2, CANNOT_STAND);
        faulty("3('a'  ", 7, CANNOT_STAND);
        faulty(" ".repeat(300), 300, CANNOT_STAND);
        faulty(" ".repeat(298) + "'a", 300, CANNOT_STAND);
        faulty(" ".repeat(297) + "let", 300, CANNOT_STAND);
    }

    // ---- "3 the first byte of an ITEM by which its ROW has more than 120 letters" ----

    static void promise04EachItemUpTo120() {
        String most = "59('yz')'y'";
        String word = "yz".repeat(59) + "y";
        told(most + "'z'", word + "z");
        told(most + "1('z')", word + "z");
        told(most + "rev('z')", word + "z");
        told(most + "fib 0", word + "b");
        told(most + "morse 0", word + "a");
        told("let z='z';" + most + "z", word + "z");
    }

    static void promise04EachItemUpTo121() {
        int place = FULL_ROW.length();
        faulty(FULL_ROW + "'z'", place, TOO_MANY);
        faulty(FULL_ROW + "1('z')", place, TOO_MANY);
        faulty(FULL_ROW + "rev('z')", place, TOO_MANY);
        faulty(FULL_ROW + "fib 0", place, TOO_MANY);
        faulty(FULL_ROW + "morse 0", place, TOO_MANY);
        faulty("let z='z';" + FULL_ROW + "z", 10 + place, TOO_MANY);
    }

    static void promise04ItemsOfNoLettersInAFullRow() {
        told(FULL_ROW + "0('z')", FULL_WORD);
        told(FULL_ROW + "60(0('z'))", FULL_WORD);
        told(FULL_ROW + "rev(0('z'))", FULL_WORD);
        told("let z=0('a');" + FULL_ROW + "z", FULL_WORD);
    }

    // "its ROW": each open ROW has letters of its own
    static void promise04EachRowHasItsOwn120() {
        told("let x=" + FULL_ROW + ";let y=" + FULL_ROW + ";'q'", "q");
        told(FULL_ROW + "0(" + FULL_ROW + ")", FULL_WORD);
        told("'q'0(" + FULL_ROW + "rev(0(" + FULL_ROW + ")))", "q");
        faulty("'q'0(" + FULL_ROW + "'z')", 5 + FULL_ROW.length(), TOO_MANY);
        faulty("let x=" + FULL_ROW + "'z';'q'", 6 + FULL_ROW.length(), TOO_MANY);
    }

    // seven ROWS are open at most, and each may be full
    static void promise04SevenFullRows() {
        String inmost = (FULL_ROW + "0(").repeat(6) + "'" + "abc".repeat(40) + "'";
        told(inmost + SIX_CLOSED, FULL_WORD);
        faulty(inmost + "'q'" + SIX_CLOSED, inmost.length(), TOO_MANY);
        faulty(inmost + "fib 2" + SIX_CLOSED, inmost.length(), TOO_MANY);
        faulty(inmost + SIX_CLOSED + "'q'", inmost.length() + 6, TOO_MANY);
    }

    // "asked when the ITEM ends, so of an inner one first"
    static void promise04AnInnerItemFirst() {
        faulty("2(60('abc'))", 2, TOO_MANY);
        faulty("rev(2(60('abc')))", 6, TOO_MANY);
        faulty("60(60('ab'))", 0, TOO_MANY);
        faulty("2(rev(60('ab')))", 0, TOO_MANY);
        faulty("0(60('abc'))", 2, TOO_MANY);
    }

    static void promise04AnotherFaultAheadOfItsEnd() {
        faulty("60('abc'", 8, CANNOT_STAND);
        faulty("60('abc';", 8, CANNOT_STAND);
        faulty("60('abc'61('d'))", 8, NUMBER_WRONG);
        faulty("'" + FULL_WORD + "y", 122, CANNOT_STAND);
        faulty("'" + FULL_WORD + "y)", 122, CANNOT_STAND);
        faulty(FULL_ROW + "fib 21", FULL_ROW.length() + 4, NUMBER_WRONG);
        faulty(FULL_ROW + "fib", FULL_ROW.length() + 3, CANNOT_STAND);
        faulty(FULL_ROW + "2(", FULL_ROW.length() + 2, CANNOT_STAND);
    }

    // ---- "4 the seventh ( that is open at once" ----

    static void promise04SixOpen() {
        told(SIX_OPEN + "'q'" + SIX_CLOSED, "q");
        told("rev(rev(rev(rev(rev(rev('ab'))))))", "ab");
        told("rev(1(rev(1(rev(1('ab'))))))", "ba");
    }

    static void promise04TheSeventhOpen() {
        faulty(SIX_OPEN + "1('q')" + SIX_CLOSED, SIX_OPEN.length() + 1, TOO_DEEP);
        faulty(SIX_OPEN + "rev('q')" + SIX_CLOSED, SIX_OPEN.length() + 3, TOO_DEEP);
        faulty(SIX_OPEN + "1 (", SIX_OPEN.length() + 2, TOO_DEEP);
        faulty(SIX_OPEN + "'q'1(", open(SIX_OPEN + "'q'1("), TOO_DEEP);
    }

    // "at once": those that are closed do not count
    static void promise04TheSeventhBehindAClosedOne() {
        told(SIX_OPEN + "'q'" + SIX_CLOSED + "1('r')", "qr");
        told("1(1(1(1(1(1('q')1('r'))))))", "qr");
        told("1(1(1(1(1(1('q'))1(1('r'))))))", "qr");
        told("1('q')".repeat(8), "q".repeat(8));
    }

    // a ROW behind let opens anew, and a NAME opens nothing
    static void promise04SixOpenInEachRow() {
        told("let x=" + SIX_OPEN + "'q'" + SIX_CLOSED + ";" + SIX_OPEN + "x" + SIX_CLOSED, "q");
        faulty("let x=" + SIX_OPEN + "1('q')" + SIX_CLOSED + ";x", 6 + SIX_OPEN.length() + 1, TOO_DEEP);
    }

    // ---- "Of one place the least" ----

    static void promise04OfOnePlaceTheLeast() {
        // a seventh ( that cannot stand there either; a fifth NAME that is none; a NUMBER where none can stand
        faulty(SIX_OPEN + "(", SIX_OPEN.length(), CANNOT_STAND);
        faulty(SIX_OPEN + "'q'(", SIX_OPEN.length() + 3, CANNOT_STAND);
        faulty(FOUR_NAMES + "let abcd='e';'q'", FOUR_NAMES.length() + 4, CANNOT_STAND);
        faulty(FOUR_NAMES + "let rev='e';'q'", FOUR_NAMES.length() + 4, CANNOT_STAND);
        faulty("2 61('a')", 2, CANNOT_STAND);
        faulty("let 61='a';'q'", 4, CANNOT_STAND);
        // so many times that the ROW has too many letters, too
        faulty("61('abc')", 0, NUMBER_WRONG);
        faulty(FULL_ROW + "61('a')", FULL_ROW.length(), NUMBER_WRONG);
    }

    // "the first that is met as it is read"
    static void promise04TheFirstThatIsMet() {
        faulty("61('a'", 0, NUMBER_WRONG);
        faulty("'a')61('a')", 3, CANNOT_STAND);
        faulty("fib 11 61('a')", 0, TOO_MANY);
        faulty("fib 21 )", 4, NUMBER_WRONG);
        faulty("let x=fib 11;x)", 6, TOO_MANY);
        faulty(SIX_OPEN + "61('a')", SIX_OPEN.length(), NUMBER_WRONG);
    }
}
