import java.util.ArrayList;
import java.util.List;
import java.util.Random;

/** Promises 2 to 4: the TAPE, the TEXTS that tell a WORD and the FAULT of each that tells none. */
public final class TextTest {
    private static final int CANNOT_STAND = Texts.CANNOT_STAND;
    private static final int NUMBER_WRONG = Texts.NUMBER_WRONG;
    private static final int TOO_MANY = Texts.TOO_MANY;
    private static final int TOO_DEEP = Texts.TOO_DEEP;
    private static final String[] PIECES = {"'a'", "'ab'", "2(", "3 (", "rev(", "rev", ")", ")", ")", "'", "(", ";",
        "=", " ", "let ", "let a=", "let b = 'c';", "let xy='ab' ;", "let z='d';", "let q='z';", "let x=x'b';", "x",
        "a ", "fib 3", "fib", "fib 11", "fib 21", "morse2", "morse 7", "60('ab')", "60('abc')", "61", "0(", "9", "1",
        "A", "''", "1(rev(1(1(", "2(1(2(1(1(1('a'))))))", "let fib=", "let abcd=", "\n", "\u00ff"};

    private TextTest() {
    }

    public static void main(String[] args) {
        checkTape();
        checkTold();
        checkNames();
        checkCannotStand();
        checkNumbers();
        checkTooMany();
        checkFullRows();
        checkTooDeep();
        checkFirstFault();
        checkAfterFault();
        checkAfterTold();
        checkGrownTexts();
        checkBrokenTexts();
        Check.close("TextTest");
    }

    private static void told(String text, String word) {
        Texts.told(text, word);
    }

    private static void faulty(String text, int place, int kind) {
        Texts.faulty(text, place, kind);
    }

    private static void checkTape() {
        WordRuns x = new WordRuns();
        Check.due("bytes at first", x.count(3), 0);
        Check.due("end(0)", x.end(0), 0);
        Check.due("end(1)", x.end(1), -1);
        Check.due("end(-1)", x.end(-1), -1);
        for (int many = 20; many <= 300; many += 20) {
            Check.due("feed up to " + many, x.feed(0x27616263, 0x64656667, 0x68696a6b, 0x6c6d6e6f, 0x70717227), many);
        }
        Check.due("feed beyond 300", x.feed(1, 2, 3, 4, 5), -1);
        Check.due("bytes behind it", x.count(3), 300);
        Check.due("end(301)", x.end(301), -1);
        Check.due("end(-1) of 300", x.end(-1), -1);
        Check.due("end(MIN)", x.end(Integer.MIN_VALUE), -1);
        Check.due("end(MAX)", x.end(Integer.MAX_VALUE), -1);
        Check.due("bytes behind them", x.count(3), 300);
        Check.due("end(300)", x.end(300), 300);
        Check.due("end(281)", x.end(281), 281);
        Check.due("feed would come to 301", x.feed(0, 0, 0, 0, 0), -1);
        Check.due("end(280)", x.end(280), 280);
        Check.due("feed comes to 300", x.feed(0, 0, 0, 0, 0), 300);
        Check.due("end(20)", x.end(20), 20);
        Check.due("tell", x.tell(), 18);
        Check.holds("the highest byte comes first", Words.read(x).equals("abcdefghijklmnopqr"));
        Check.due("bytes behind tell", x.count(3), 0);
        Check.due("tell of an empty TAPE", x.tell(), -2 - 1);
        x.feed(0x272020a7, -1, -1, -1, -1);
        Check.due("a byte over 127", x.tell(), -2 - (8 + CANNOT_STAND));
        x.feed(-1, -1, -1, -1, -1);
        Check.due("bytes 255", x.tell(), -2 - CANNOT_STAND);
    }

    private static void checkTold() {
        told("'a'", "a");
        told("'abcdefghijklmnopqrstuvwxyz'", "abcdefghijklmnopqrstuvwxyz");
        told("  'ab'  'c'  ", "abc");
        told("'ab''c'", "abc");
        told("2('aab')", "aabaab");
        told("2 ( 'aab' )", "aabaab");
        told("3('a'2('b'))'c'", "abbabbabbc");
        told("0('a')", "");
        told("1('a')", "a");
        told("60('ab')", "ab".repeat(60));
        told("0(60('ab'))'x'", "x");
        told("007('a')", "aaaaaaa");
        told("00('a')", "");
        told("rev('abc')", "cba");
        told("rev(rev('abc')'d')", "dabc");
        told("'x'rev('ab' 2('c'))'y'", "xccbay");
        told("rev(0('a'))", "");
        for (int n = 0; n <= 10; n++) {
            told("fib " + n, Words.fib(n));
            told("fib" + n + "'c'", Words.fib(n) + "c");
        }
        for (int n = 0; n <= 6; n++) {
            told("morse " + n, Words.morse(n));
            told("'ab'morse" + n, "ab" + Words.morse(n));
        }
        told("morse 6 fib 8 fib 7 'a'", Words.morse(6) + Words.fib(8) + Words.fib(7) + "a");
        told("morse 6 fib 9 fib 0", Words.morse(6) + Words.fib(9) + "b");
        told("fib 9 fib 0 morse 6", Words.fib(9) + "b" + Words.morse(6));
        told("60('a') rev(60('b'))", "a".repeat(60) + "b".repeat(60));
        told("1(1(1(1(1(1('a'))))))", "a");
        told("1(1(1(1(1(1('a'))))))1('b')rev(2('cd'))", "abdcdc");
        told("'" + "abcdefghij".repeat(12) + "'", "abcdefghij".repeat(12));
        told("'" + "a".repeat(120) + "' 0('b') 60(0('c'))", "a".repeat(120));
        told(" ".repeat(295) + "'abc'", "abc");
    }

    private static void checkNames() {
        told("let x = 'ab'; 2(x)", "abab");
        told("let x='ab';x x x", "ababab");
        told("let x = 'ab'; 2(x) rev('ab' x) fib 3", "abab" + "baba" + "aba");
        told("let a='a';let b=a'b';let c=b a;let d=2(c);d", "abaaba");
        told("let x='a';let x='b';x", "b");
        told("let x='a';let x=x x;let x=x x;x", "aaaa");
        told("let x='a';let y=x;let x='b';y x", "ab");
        told("let a='a';let b='b';let c='c';let d='d';let a='e';a b c d", "ebcd");
        told("let le='a';let re='b';let fi='c';let mor='d';le re fi mor", "abcd");
        told("let x=0('a');x'b'x", "b");
        told("let abc = 'a' ; abc", "a");
        told("let a='" + "z".repeat(120) + "';a", "z".repeat(120));
        told("let a='z';'b'", "b");
        told("let x='ab';x2(x)", "ababab");
    }

    private static void checkCannotStand() {
        faulty("", 0, CANNOT_STAND);
        faulty("   ", 3, CANNOT_STAND);
        faulty("'ab", 3, CANNOT_STAND);
        faulty("'", 1, CANNOT_STAND);
        faulty("''", 1, CANNOT_STAND);
        faulty("'A'", 1, CANNOT_STAND);
        faulty("'a b'", 2, CANNOT_STAND);
        faulty("' a'", 1, CANNOT_STAND);
        faulty("'a1'", 2, CANNOT_STAND);
        faulty("3('a'", 5, CANNOT_STAND);
        faulty("3('a'  ", 7, CANNOT_STAND);
        faulty("3()", 2, CANNOT_STAND);
        faulty("3(", 2, CANNOT_STAND);
        faulty("3", 1, CANNOT_STAND);
        faulty("3 ", 2, CANNOT_STAND);
        faulty("2 'a'", 2, CANNOT_STAND);
        faulty("2 3('a')", 2, CANNOT_STAND);
        faulty("('a')", 0, CANNOT_STAND);
        faulty("'a')", 3, CANNOT_STAND);
        faulty("'a' )", 4, CANNOT_STAND);
        faulty("'a';", 3, CANNOT_STAND);
        faulty("'a'.", 3, CANNOT_STAND);
        faulty("'a'\n", 3, CANNOT_STAND);
        faulty("'a' x", 4, CANNOT_STAND);
        faulty("'a' let x='b';x", 4, CANNOT_STAND);
        faulty("2('a' let", 6, CANNOT_STAND);
        faulty("let", 3, CANNOT_STAND);
        faulty("let ", 4, CANNOT_STAND);
        faulty("let x", 5, CANNOT_STAND);
        faulty("let x 'a'; x", 6, CANNOT_STAND);
        faulty("let x = ; x", 8, CANNOT_STAND);
        faulty("let x = 'a' x", 12, CANNOT_STAND);
        faulty("let x = 'a'", 11, CANNOT_STAND);
        faulty("let x = 'a';", 12, CANNOT_STAND);
        faulty("let x = 'a'); x", 11, CANNOT_STAND);
        faulty("let x = x; x", 8, CANNOT_STAND);
        faulty("let abcd = 'a'; 'b'", 4, CANNOT_STAND);
        faulty("let morse = 'a'; 'b'", 4, CANNOT_STAND);
        faulty("let rev='a';'b'", 4, CANNOT_STAND);
        faulty("let let='a';'b'", 4, CANNOT_STAND);
        faulty("let fib='a';'b'", 4, CANNOT_STAND);
        faulty("let 5='a';'b'", 4, CANNOT_STAND);
        faulty("let X='a';'b'", 4, CANNOT_STAND);
        faulty("letx='a';x", 0, CANNOT_STAND);
        faulty("let x='a';xx", 10, CANNOT_STAND);
        faulty("let x='a';y", 10, CANNOT_STAND);
        faulty("rev 'a'", 4, CANNOT_STAND);
        faulty("rev", 3, CANNOT_STAND);
        faulty("rev()", 4, CANNOT_STAND);
        faulty("rev('a'", 7, CANNOT_STAND);
        faulty("revx('a')", 0, CANNOT_STAND);
        faulty("fib", 3, CANNOT_STAND);
        faulty("fib x", 4, CANNOT_STAND);
        faulty("fib (1)", 4, CANNOT_STAND);
        faulty("fibx", 0, CANNOT_STAND);
        faulty("morse", 5, CANNOT_STAND);
        faulty("morse 'a'", 6, CANNOT_STAND);
        faulty("mors 1", 0, CANNOT_STAND);
        faulty("fib 1 1", 7, CANNOT_STAND);
        faulty("fib 1\u0000", 5, CANNOT_STAND);
        faulty("\u00e9", 0, CANNOT_STAND);
        faulty("'a'" + " ".repeat(296) + "(", 299, CANNOT_STAND);
        faulty("'" + "a".repeat(299), 300, CANNOT_STAND);
    }

    private static void checkNumbers() {
        faulty("61('a')", 0, NUMBER_WRONG);
        faulty("  61('a')", 2, NUMBER_WRONG);
        faulty("61", 0, NUMBER_WRONG);
        faulty("061 'a'", 0, NUMBER_WRONG);
        faulty("99999999999999999999('a')", 0, NUMBER_WRONG);
        faulty("4294967296('a')", 0, NUMBER_WRONG);
        faulty("'a'" + "9".repeat(297), 3, NUMBER_WRONG);
        faulty("fib 21", 4, NUMBER_WRONG);
        faulty("fib21", 3, NUMBER_WRONG);
        faulty("morse 9", 6, NUMBER_WRONG);
        faulty("2(61('a'))", 2, NUMBER_WRONG);
        faulty("let x = morse 10; x", 14, NUMBER_WRONG);
        faulty("fib 4294967297", 4, NUMBER_WRONG);
    }

    private static void checkTooMany() {
        faulty("fib 11", 0, TOO_MANY);
        faulty("fib 20", 0, TOO_MANY);
        faulty("morse 7", 0, TOO_MANY);
        faulty("morse 8", 0, TOO_MANY);
        faulty("60('abc')", 0, TOO_MANY);
        faulty("'" + "a".repeat(121) + "'", 0, TOO_MANY);
        faulty("'" + "a".repeat(298) + "'", 0, TOO_MANY);
        faulty("'" + "a".repeat(120) + "' 'b'", 123, TOO_MANY);
        faulty("'" + "a".repeat(120) + "'0('b')'c'", 128, TOO_MANY);
        faulty("'a' 60('bc')", 4, TOO_MANY);
        faulty("60('ab') rev('a')", 9, TOO_MANY);
        faulty("60('ab') fib 0", 9, TOO_MANY);
        faulty("60('ab') morse 0", 9, TOO_MANY);
        faulty("let x='a'; 60('ab') x", 20, TOO_MANY);
        faulty("0(60('abc'))", 2, TOO_MANY);
        faulty("0(60('ab')'c')", 10, TOO_MANY);
        faulty("2(rev(60('ab')'c'))", 14, TOO_MANY);
        faulty("60(60('ab'))", 0, TOO_MANY);
        faulty("'a'rev(60('ab'))", 3, TOO_MANY);
        faulty("let x=60('ab')'c';'a'", 14, TOO_MANY);
        faulty("let x=61('ab');'a'", 6, NUMBER_WRONG);
        faulty("let a='a';let b='b';let c='c';let d='d';let e='e';e", 44, TOO_MANY);
        faulty("let a='a';let b='b';let c='c';let d='d';let e", 44, TOO_MANY);
        faulty("let a='a';let b='b';let c='c';let d='d';let efgh='e';'a'", 44, CANNOT_STAND);
        faulty("let a='a';let b='b';let c='c';let d='d';let fib='e';'a'", 44, CANNOT_STAND);
    }

    /** Seven ROWS open at once, each of 120 letters: no letter of theirs may be lost. */
    private static void checkFullRows() {
        String ahead = "60('ab')0(".repeat(6);
        String full = ahead + "'" + "xyz".repeat(40) + "'";
        told(full + ")".repeat(6), "ab".repeat(60));
        faulty(full + "'c'" + ")".repeat(6), full.length(), TOO_MANY);
        faulty(full + " fib 0" + ")".repeat(6), full.length() + 1, TOO_MANY);
    }

    private static void checkTooDeep() {
        faulty("1(1(1(1(1(1(1('a')))))))", 13, TOO_DEEP);
        faulty("1(1(1(1(1(1(1(", 13, TOO_DEEP);
        faulty("rev(rev(rev(rev(rev(rev(rev('a')))))))", 27, TOO_DEEP);
        faulty("1(1(1(1(1(1('a' rev", 19, CANNOT_STAND);
        faulty("1(1(1(1(1(1((", 12, CANNOT_STAND);
        faulty("let x=1(1(1(1(1(1(1('a')))))));x", 19, TOO_DEEP);
        told("let x=1(1(1(1(1(1('a'))))));1(1(1(1(1(1(x))))))", "a");
    }

    private static void checkFirstFault() {
        faulty("'" + "a".repeat(121) + "' 61('b')", 0, TOO_MANY);
        faulty("'" + "a".repeat(121) + ")", 122, CANNOT_STAND);
        faulty("60('abc'", 8, CANNOT_STAND);
        faulty("60('abc') )", 0, TOO_MANY);
        faulty("fib 21 )", 4, NUMBER_WRONG);
        faulty("2(fib 11 61('a'))", 2, TOO_MANY);
    }

    private static void checkAfterFault() {
        WordRuns x = Words.of("abc");
        x.put(0, 3);
        x.keep(1);
        Check.due("a faulty TEXT", Words.tell(x, "'x"), -2 - (8 * 2 + CANNOT_STAND));
        Check.holds("the WORD stays", Words.read(x).equals("dbc"));
        Check.due("ACTS stay", x.count(2), 1);
        Check.due("SHELVES stay", x.count(4), 2);
        Check.due("the TAPE is empty", x.count(3), 0);
        Check.due("undo", x.undo(), 0);
        Check.holds("undone", Words.read(x).equals("abc"));
        Check.due("names of an earlier TEXT are gone", Words.tell(x, "let y='a';y") + Words.tell(x, "y"), 1 - 3);
    }

    private static void checkAfterTold() {
        WordRuns x = Words.of("abc");
        x.put(0, 3);
        x.keep(0);
        Check.due("tell", Words.tell(x, "'xyz' 'w'"), 4);
        Check.holds("the other WORD", Words.read(x).equals("xyzw"));
        Check.due("nothing can be undone", x.undo(), -1);
        Check.due("no ACTS", x.count(2), 0);
        Check.due("SHELVES stay", x.count(4), 1);
        Check.due("back", x.back(0), 3);
        Check.holds("as kept", Words.read(x).equals("dbc"));
        Check.due("told without letters", Words.tell(x, "0('a')"), 0);
        Check.due("no letters", x.count(0), 0);
    }

    /** A random ROW with the word it tells; told stays null where a row would have too many letters. */
    private static final class Grown {
        private final Random random;
        private final List<String> names = new ArrayList<>();
        private final List<String> words = new ArrayList<>();

        Grown(Random random) {
            this.random = random;
        }

        String blanks() {
            return " ".repeat(random.nextInt(4) / 2 * random.nextInt(2));
        }

        String[] row(int depth) {
            StringBuilder text = new StringBuilder();
            StringBuilder word = new StringBuilder();
            for (int items = 1 + random.nextInt(3); items > 0; items--) {
                String[] item = item(depth);
                if (item == null) {
                    return null;
                }
                text.append(blanks()).append(item[0]).append(blanks());
                word.append(item[1]);
                text.append(Character.isDigit(item[0].charAt(item[0].length() - 1)) ? " " : "");
                text.append(Character.isLetter(item[0].charAt(item[0].length() - 1)) ? " " : "");
            }
            return word.length() > 120 ? null : new String[] {text.toString(), word.toString()};
        }

        private String[] item(int depth) {
            int kind = random.nextInt(depth > 3 ? 4 : 6);
            if (kind == 0 || kind == 1 && names.isEmpty()) {
                String letters = Words.random(random, 1 + random.nextInt(4), 26);
                return new String[] {"'" + letters + "'", letters};
            }
            if (kind == 1) {
                int name = random.nextInt(names.size());
                return new String[] {names.get(name), words.get(name)};
            }
            int n = random.nextInt(5);
            if (kind < 4) {
                String told = kind == 2 ? Words.fib(n) : Words.morse(n);
                return new String[] {(kind == 2 ? "fib" : "morse") + blanks() + n, told};
            }
            String[] inner = row(depth + 1);
            if (inner == null) {
                return null;
            }
            String inside = blanks() + "(" + inner[0] + ")";
            return kind == 4 ? new String[] {n + inside, inner[1].repeat(n)}
                : new String[] {"rev" + inside, new StringBuilder(inner[1]).reverse().toString()};
        }

        String[] text() {
            StringBuilder text = new StringBuilder();
            for (int many = random.nextInt(5); many > 0; many--) {
                String[] row = row(0);
                if (row == null) {
                    return null;
                }
                String name = new String[] {"a", "xy", "et", "mor"}[random.nextInt(4)];
                text.append("let ").append(name).append(blanks()).append("=").append(row[0]).append(";");
                text.append(blanks());
                if (names.contains(name)) {
                    words.set(names.indexOf(name), row[1]);
                } else {
                    names.add(name);
                    words.add(row[1]);
                }
            }
            String[] row = row(0);
            return row == null ? null : new String[] {text + row[0], row[1]};
        }
    }

    private static void checkGrownTexts() {
        Random random = new Random(5);
        int told = 0;
        for (int round = 0; round < 4000; round++) {
            String[] text = new Grown(random).text();
            if (text != null && text[0].length() <= 300) {
                told(text[0], text[1]);
                told++;
            }
        }
        Check.holds("most grown TEXTS are in bounds", told > 2000);
    }

    /** TEXTS with a few signs put in, taken out, or of such pieces alone: the word or FAULT of a second reading. */
    private static void checkBrokenTexts() {
        Random random = new Random(6);
        int[] ofKind = new int[5];
        for (int round = 0; round < 40000; round++) {
            String[] grown = random.nextInt(3) > 0 ? new Grown(random).text() : null;
            StringBuilder text = new StringBuilder(grown == null ? "" : grown[0]);
            for (int changes = random.nextInt(grown == null ? 40 : 4); changes > 0; changes--) {
                int place = random.nextInt(text.length() + 1);
                if (grown != null && random.nextInt(3) == 0 && place < text.length()) {
                    text.deleteCharAt(place);
                } else {
                    text.insert(grown == null ? text.length() : place, PIECES[random.nextInt(PIECES.length)]);
                }
            }
            text.setLength(Math.min(300, text.length()));
            ofKind[checkRead(text.toString()) % 8]++;
        }
        for (int kind = 0; kind < ofKind.length; kind++) {
            Check.holds("TEXTS of kind " + kind + " came: " + ofKind[kind], ofKind[kind] > 100);
        }
    }

    private static int checkRead(String text) {
        int fault = SlowText.fault(text);
        Check.due("FAULT of " + text, Words.fault(text), fault);
        if (fault == 0) {
            told(text, SlowText.word(text));
        }
        return fault;
    }
}
