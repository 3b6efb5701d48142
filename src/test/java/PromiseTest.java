/** Promises 15 to 46 by examples that are worked out by hand: ordinary ones, edges, wrong inputs. */
public final class PromiseTest {
    private static final int MAX = Integer.MAX_VALUE;
    private static final int MIN = Integer.MIN_VALUE;

    private PromiseTest() {
    }

    public static void main(String[] args) {
        Check.due("NONE", WordRuns.NONE, -1);
        checkLetter();
        checkBorderAndPeriod();
        checkRoot();
        checkLyndon();
        checkRuns();
        checkSquares();
        checkPower();
        checkCover();
        checkSeed();
        checkCloak();
        checkMirrors();
        checkFactors();
        checkBareAndTwice();
        checkPhrase();
        checkEnds();
        checkAbelAndOften();
        checkLiesAndCompare();
        checkClosedAndAbsent();
        checkSpecialAndGapped();
        checkChange();
        checkAlikeAndCount();
        checkWithoutLetters();
        checkFull();
        checkExtremes();
        Check.close("PromiseTest");
    }

    private static void checkLetter() {
        WordRuns x = Words.of("az");
        Check.due("letter(0)", x.letter(0), 0);
        Check.due("letter(1)", x.letter(1), 25);
        Check.due("letter(2)", x.letter(2), -1);
        Check.due("letter(-1)", x.letter(-1), -1);
    }

    private static void checkBorderAndPeriod() {
        WordRuns x = Words.of("xabaabaay");
        Check.due("border(1, 8, -1)", x.border(1, 8, -1), 2);
        Check.due("border(1, 8, 0)", x.border(1, 8, 0), 4);
        Check.due("border(1, 8, 1)", x.border(1, 8, 1), 1);
        Check.due("border(1, 8, 2)", x.border(1, 8, 2), -2);
        Check.due("border(1, 8, -2)", x.border(1, 8, -2), -1);
        Check.due("border(0, 9, -1)", x.border(0, 9, -1), 0);
        Check.due("border(0, 9, 0)", x.border(0, 9, 0), -2);
        Check.due("border(4, 4, -1)", x.border(4, 4, -1), 0);
        Check.due("border(9, 9, 0)", x.border(9, 9, 0), -2);
        Check.due("border(5, 4, 0)", x.border(5, 4, 0), -1);
        Check.due("border(0, 10, -1)", x.border(0, 10, -1), -1);
        Check.due("border(-1, 3, 7)", x.border(-1, 3, 7), -1);
        Check.due("period(1, 8, -1)", x.period(1, 8, -1), 3);
        Check.due("period(1, 8, 0)", x.period(1, 8, 0), 3);
        Check.due("period(1, 8, 1)", x.period(1, 8, 1), 6);
        Check.due("period(1, 8, 2)", x.period(1, 8, 2), 7);
        Check.due("period(1, 8, 3)", x.period(1, 8, 3), -2);
        Check.due("period(3, 3, -1)", x.period(3, 3, -1), 0);
        Check.due("period(3, 3, 0)", x.period(3, 3, 0), -2);
        Check.due("period(0, 1, 0)", x.period(0, 1, 0), 1);
        Check.due("period(1, 8, -2)", x.period(1, 8, -2), -1);
        Check.due("period(1, 10, 0)", x.period(1, 10, 0), -1);
    }

    private static void checkRoot() {
        WordRuns x = Words.of("bababaq");
        Check.due("root(0, 6, 0)", x.root(0, 6, 0), 2);
        Check.due("root(0, 6, 1)", x.root(0, 6, 1), 3);
        Check.due("root(0, 6, 2)", x.root(0, 6, 2), 1);
        Check.due("root(0, 5, 0)", x.root(0, 5, 0), 5);
        Check.due("root(0, 5, 1)", x.root(0, 5, 1), 1);
        Check.due("root(0, 5, 2)", x.root(0, 5, 2), 1);
        Check.due("root(6, 7, 0)", x.root(6, 7, 0), 1);
        Check.due("root(6, 7, 1)", x.root(6, 7, 1), 1);
        Check.due("root(6, 7, 2)", x.root(6, 7, 2), 0);
        Check.due("root(0, 6, 3)", x.root(0, 6, 3), -1);
        Check.due("root(0, 6, -1)", x.root(0, 6, -1), -1);
        Check.due("root(3, 3, 0)", x.root(3, 3, 0), -1);
        Check.due("root(0, 8, 0)", x.root(0, 8, 0), -1);
    }

    private static void checkLyndon() {
        WordRuns x = Words.of("bbaabaab");
        Check.due("lyndon(true, -1)", x.lyndon(true, -1), 4);
        Check.due("lyndon(true, 0)", x.lyndon(true, 0), 0);
        Check.due("lyndon(true, 1)", x.lyndon(true, 1), 1);
        Check.due("lyndon(true, 2)", x.lyndon(true, 2), 2);
        Check.due("lyndon(true, 3)", x.lyndon(true, 3), 5);
        Check.due("lyndon(true, 4)", x.lyndon(true, 4), -2);
        Check.due("lyndon(true, -2)", x.lyndon(true, -2), -1);
        Check.due("lyndon(false, -1)", x.lyndon(false, -1), 2);
        Check.due("lyndon(false, 1)", x.lyndon(false, 1), 7);
        Check.due("lyndon(false, 2)", x.lyndon(false, 2), -2);
        Check.due("longest(true, 2)", x.longest(true, 2), 3);
        Check.due("longest(true, 3)", x.longest(true, 3), 2);
        Check.due("longest(false, 0)", x.longest(false, 0), 7);
        Check.due("longest(false, 2)", x.longest(false, 2), 1);
        Check.due("longest(true, 7)", x.longest(true, 7), 1);
        Check.due("longest(true, 8)", x.longest(true, 8), -1);
        Check.due("longest(false, -1)", x.longest(false, -1), -1);
    }

    private static void checkRuns() {
        // aa, aabaab, aa, bb
        WordRuns x = Words.of("aabaabb");
        int[][] due = {{0, 2, 1, 0, 2000}, {0, 6, 3, 0, 2000}, {3, 5, 1, 3, 2000}, {5, 7, 1, 5, 2000}};
        Check.due("run(-1, 0)", x.run(-1, 0), due.length);
        for (int k = 0; k < due.length; k++) {
            for (int what = 0; what < 5; what++) {
                Check.due("run(" + k + ", " + what + ")", x.run(k, what), due[k][what]);
            }
            Check.due("run(" + k + ", 5)", x.run(k, 5), -1);
            Check.due("run(" + k + ", -1)", x.run(k, -1), -1);
        }
        Check.due("run(4, 0)", x.run(4, 0), -1);
        Check.due("run(-2, 0)", x.run(-2, 0), -1);
        Check.due("run(-1, 1)", x.run(-1, 1), -1);
        Check.due("runs(0)", x.runs(0), 2);
        Check.due("runs(2)", x.runs(2), 1);
        Check.due("runs(5)", x.runs(5), 2);
        Check.due("runs(6)", x.runs(6), 1);
        Check.due("runs(7)", x.runs(7), -1);
        Check.due("runs(-1)", x.runs(-1), -1);
        Check.due("count(5)", x.count(5), 8000);
        WordRuns other = Words.of("cbabababd");
        Check.due("run(-1, 0)", other.run(-1, 0), 1);
        Check.due("run(0, 0)", other.run(0, 0), 1);
        Check.due("run(0, 1)", other.run(0, 1), 8);
        Check.due("run(0, 2)", other.run(0, 2), 2);
        Check.due("run(0, 3)", other.run(0, 3), 2);
        Check.due("run(0, 4)", other.run(0, 4), 3500);
        Check.due("an EXPONENT downwards", Words.of("abcabcab").run(0, 4), 2666);
        Check.due("a power of a power is one RUN", Words.of("abababab").run(-1, 0), 1);
    }

    private static void checkSquares() {
        WordRuns x = Words.of("aaaab");
        // aa thrice, aaaa: only the half of aa is its own ROOT
        int[] due = {4, 2, 1, 2, 4, 0};
        for (int what = 0; what < due.length; what++) {
            Check.due("squares(" + what + ")", x.squares(what), due[what]);
        }
        Check.due("squares(6)", x.squares(6), -1);
        Check.due("squares(-1)", x.squares(-1), -1);
        WordRuns none = Words.of("abcab");
        int[] dueOfNone = {0, 0, 0, 0, 0, -2};
        for (int what = 0; what < dueOfNone.length; what++) {
            Check.due("squares(" + what + ") of none", none.squares(what), dueOfNone[what]);
        }
        WordRuns three = Words.of("ddd");
        int[] dueOfThree = {2, 1, 1, 1, 2, 0};
        for (int what = 0; what < dueOfThree.length; what++) {
            Check.due("squares(" + what + ") of ddd", three.squares(what), dueOfThree[what]);
        }
        // aa at three PLACES, baabaa and aabaab at one each
        WordRuns several = Words.of("baabaabcaa");
        int[] dueOfSeveral = {5, 3, 3, 0, 6, 0};
        for (int what = 0; what < dueOfSeveral.length; what++) {
            Check.due("squares(" + what + ") of several", several.squares(what), dueOfSeveral[what]);
        }
        WordRuns late = Words.of("ccababdada");
        Check.due("squares(4)", late.squares(4), 4);
        Check.due("squares(5)", late.squares(5), 2);
    }

    private static void checkPower() {
        WordRuns x = Words.of("abcaaab");
        Check.due("power(1001)", x.power(1001), 4);
        Check.due("power(1333)", x.power(1333), 4);
        Check.due("power(1334)", x.power(1334), 5);
        Check.due("power(2000)", x.power(2000), 5);
        Check.due("power(2001)", x.power(2001), 6);
        Check.due("power(3000)", x.power(3000), 6);
        Check.due("power(3001)", x.power(3001), -2);
        Check.due("power(120000)", x.power(120000), -2);
        Check.due("power(1000)", x.power(1000), -1);
        Check.due("power(120001)", x.power(120001), -1);
        Check.due("power(1001) of unlike letters", Words.of("abcd").power(1001), -2);
        Check.due("power(120000) of a full one", Words.of("a".repeat(120)).power(120000), 120);
        Check.due("power(119001) of a full one", Words.of("a".repeat(120)).power(119001), 120);
    }

    private static void checkCover() {
        WordRuns x = Words.of("abaababaabax");
        Check.due("cover(0, 11, -1)", x.cover(0, 11, -1), 3);
        Check.due("cover(0, 11, 0)", x.cover(0, 11, 0), 3);
        Check.due("cover(0, 11, 1)", x.cover(0, 11, 1), 6);
        Check.due("cover(0, 11, 2)", x.cover(0, 11, 2), 11);
        Check.due("cover(0, 11, 3)", x.cover(0, 11, 3), -2);
        Check.due("cover(0, 12, -1)", x.cover(0, 12, -1), 1);
        Check.due("cover(0, 12, 0)", x.cover(0, 12, 0), 12);
        Check.due("cover(0, 11, -2)", x.cover(0, 11, -2), -1);
        Check.due("cover(3, 3, -1)", x.cover(3, 3, -1), -1);
        Check.due("cover(0, 13, -1)", x.cover(0, 13, -1), -1);
    }

    private static void checkSeed() {
        // ab, ba cover abab; aba and bab, too, sticking out; the WORD itself
        WordRuns x = Words.of("abab");
        int[][] due = {{2, 0}, {2, 1}, {3, 0}, {3, 1}, {4, 0}};
        Check.due("seed(-1, 0)", x.seed(-1, 0), due.length);
        for (int k = 0; k < due.length; k++) {
            Check.due("seed(" + k + ", 0)", x.seed(k, 0), due[k][0]);
            Check.due("seed(" + k + ", 1)", x.seed(k, 1), due[k][1]);
            Check.due("seed(" + k + ", 2)", x.seed(k, 2), -1);
        }
        Check.due("seed(5, 0)", x.seed(5, 0), -1);
        Check.due("seed(-1, 1)", x.seed(-1, 1), -1);
        Check.due("seed(-2, 0)", x.seed(-2, 0), -1);
        Check.due("seed(0, -1)", x.seed(0, -1), -1);
        Check.due("seeds of unlike letters", Words.of("abc").seed(-1, 0), 1);
        Check.due("seeds of one letter told thrice", Words.of("aaa").seed(-1, 0), 3);
    }

    private static void checkCloak() {
        WordRuns x = Words.of("abaxabab");
        Check.due("cloak(1, 0)", x.cloak(1, 0), 4);
        Check.due("cloak(1, 1)", x.cloak(1, 1), 0);
        Check.due("cloak(2, 0)", x.cloak(2, 0), 6);
        Check.due("cloak(2, 1)", x.cloak(2, 1), 0);
        Check.due("cloak(3, 0)", x.cloak(3, 0), 6);
        Check.due("cloak(4, 0)", x.cloak(4, 0), 4);
        Check.due("cloak(4, 1)", x.cloak(4, 1), 0);
        Check.due("cloak(8, 0)", x.cloak(8, 0), 8);
        Check.due("cloak(9, 0)", x.cloak(9, 0), -1);
        Check.due("cloak(0, 0)", x.cloak(0, 0), -1);
        Check.due("cloak(-1, 0)", x.cloak(-1, 0), -1);
        Check.due("cloak(1, 2)", x.cloak(1, 2), -1);
        Check.due("cloak(1, -1)", x.cloak(1, -1), -1);
        Check.due("the later word covers more", Words.of("cabab").cloak(2, 1), 1);
    }

    private static void checkMirrors() {
        WordRuns x = Words.of("abbab");
        Check.due("mirror(0, false)", x.mirror(0, false), 1);
        Check.due("mirror(0, true)", x.mirror(0, true), 0);
        Check.due("mirror(2, true)", x.mirror(2, true), 4);
        Check.due("mirror(1, true)", x.mirror(1, true), 0);
        Check.due("mirror(3, false)", x.mirror(3, false), 3);
        Check.due("mirror(4, false)", x.mirror(4, false), 1);
        Check.due("mirror(5, false)", x.mirror(5, false), -1);
        Check.due("mirror(5, true)", x.mirror(5, true), -1);
        Check.due("mirror(-1, true)", x.mirror(-1, true), -1);
        int[] due = {8, 5, 2, 4, 0};
        for (int what = 0; what < due.length; what++) {
            Check.due("mirrors(" + what + ")", x.mirrors(what), due[what]);
        }
        Check.due("mirrors(5)", x.mirrors(5), -1);
        Check.due("mirrors(-1)", x.mirrors(-1), -1);
        Check.due("a palindrome is one", Words.of("abcba").mirrors(2), 1);
        Check.due("unlike letters are each one", Words.of("abc").mirrors(2), 3);
        Check.due("the longest later", Words.of("abcc").mirrors(4), 2);
    }

    private static void checkFactors() {
        WordRuns x = Words.of("abab");
        Check.due("factors(1)", x.factors(1), 2);
        Check.due("factors(2)", x.factors(2), 2);
        Check.due("factors(3)", x.factors(3), 2);
        Check.due("factors(4)", x.factors(4), 1);
        Check.due("factors(5)", x.factors(5), 0);
        Check.due("factors(-1)", x.factors(-1), 7);
        Check.due("factors(0)", x.factors(0), -1);
        Check.due("factors(-2)", x.factors(-2), -1);
    }

    private static void checkBareAndTwice() {
        WordRuns x = Words.of("aabaab");
        Check.due("bare(0)", x.bare(0), 3);
        Check.due("bare(1)", x.bare(1), 0);
        Check.due("bare(2)", x.bare(2), -1);
        Check.due("bare(-1)", x.bare(-1), -1);
        Check.due("bare(0) of like letters", Words.of("aaa").bare(0), 1);
        Check.due("bare(1) of later ones", Words.of("aaab").bare(1), 0);
        Check.due("bare(1) further on", Words.of("abaaba").bare(1), 1);
        WordRuns y = Words.of("cababab");
        Check.due("twice(false, 0)", y.twice(false, 0), 4);
        Check.due("twice(false, 1)", y.twice(false, 1), 1);
        Check.due("twice(false, 2)", y.twice(false, 2), 3);
        Check.due("twice(true, 0)", y.twice(true, 0), 2);
        Check.due("twice(true, 1)", y.twice(true, 1), 1);
        Check.due("twice(true, 2)", y.twice(true, 2), 3);
        Check.due("twice(true, 2) of a word that lies over itself first", Words.of("aaaabaa").twice(true, 2), 2);
        Check.due("twice(true, 3)", y.twice(true, 3), -1);
        Check.due("twice(false, -1)", y.twice(false, -1), -1);
        Check.due("twice of none", Words.of("abc").twice(false, 0), 0);
        Check.due("twice of none", Words.of("abc").twice(false, 1), -2);
        Check.due("twice of none", Words.of("abc").twice(true, 2), -2);
    }

    private static void checkPhrase() {
        // a | b | a | aba | b | c
        WordRuns x = Words.of("abaababc");
        int[][] due = {{0, 1, -2}, {1, 1, -2}, {2, 1, 0}, {3, 3, 0}, {6, 1, 1}, {7, 1, -2}};
        Check.due("phrase(-1, 0)", x.phrase(-1, 0), due.length);
        for (int k = 0; k < due.length; k++) {
            for (int what = 0; what < 3; what++) {
                Check.due("phrase(" + k + ", " + what + ")", x.phrase(k, what), due[k][what]);
            }
            Check.due("phrase(" + k + ", 3)", x.phrase(k, 3), -1);
        }
        Check.due("phrase(6, 0)", x.phrase(6, 0), -1);
        Check.due("phrase(-1, 1)", x.phrase(-1, 1), -1);
        Check.due("phrase(-2, 0)", x.phrase(-2, 0), -1);
        Check.due("a phrase into itself", Words.of("aaaa").phrase(1, 1), 3);
    }

    private static void checkEnds() {
        // aab, ab, abaab, b, baab
        WordRuns x = Words.of("abaab");
        int[][] due = {{2, 0}, {3, 1}, {0, 2}, {4, 0}, {1, 1}};
        for (int k = 0; k < due.length; k++) {
            Check.due("ends(" + k + ", 0)", x.ends(k, 0), due[k][0]);
            Check.due("ends(" + k + ", 1)", x.ends(k, 1), due[k][1]);
            Check.due("ends(" + k + ", 2)", x.ends(k, 2), -1);
        }
        Check.due("ends(5, 0)", x.ends(5, 0), -1);
        Check.due("ends(-1, 0)", x.ends(-1, 0), -1);
        Check.due("ends(0, -1)", x.ends(0, -1), -1);
    }

    private static void checkAbelAndOften() {
        WordRuns x = Words.of("cabbaac");
        Check.due("abel(0)", x.abel(0), 3);
        Check.due("abel(1)", x.abel(1), 4);
        Check.due("abel(2)", x.abel(2), 1);
        Check.due("abel(3)", x.abel(3), -1);
        Check.due("abel(-1)", x.abel(-1), -1);
        Check.due("abel(2) of none", Words.of("abc").abel(2), -2);
        Check.due("abel(1) of none", Words.of("abc").abel(1), 0);
        Check.due("often(0)", x.often(0), 3);
        Check.due("often(2)", x.often(2), 2);
        Check.due("often(25)", x.often(25), 0);
        Check.due("often(26)", x.often(26), -1);
        Check.due("often(-2)", x.often(-2), -1);
        Check.due("often(-1)", x.often(-1), 3);
    }

    private static void checkLiesAndCompare() {
        WordRuns x = Words.of("abaabab");
        Check.due("lies(0, 2, -1)", x.lies(0, 2, -1), 3);
        Check.due("lies(0, 2, 0)", x.lies(0, 2, 0), 0);
        Check.due("lies(3, 5, 1)", x.lies(3, 5, 1), 3);
        Check.due("lies(0, 2, 2)", x.lies(0, 2, 2), 5);
        Check.due("lies(0, 2, 3)", x.lies(0, 2, 3), -2);
        Check.due("lies(0, 2, -2)", x.lies(0, 2, -2), -1);
        Check.due("lies(1, 1, -1)", x.lies(1, 1, -1), -1);
        Check.due("lies(0, 8, 0)", x.lies(0, 8, 0), -1);
        Check.due("compare(0, 2, 3, 5)", x.compare(0, 2, 3, 5), 0);
        Check.due("compare(0, 2, 0, 3)", x.compare(0, 2, 0, 3), -1);
        Check.due("compare(0, 3, 0, 2)", x.compare(0, 3, 0, 2), 1);
        Check.due("compare(1, 2, 0, 7)", x.compare(1, 2, 0, 7), 1);
        Check.due("compare(2, 7, 0, 7)", x.compare(2, 7, 0, 7), -1);
        Check.due("compare(3, 3, 7, 7)", x.compare(3, 3, 7, 7), 0);
        Check.due("compare(7, 7, 0, 1)", x.compare(7, 7, 0, 1), -1);
        Check.due("compare(0, 8, 0, 1)", x.compare(0, 8, 0, 1), -2);
        Check.due("compare(0, 1, 2, 1)", x.compare(0, 1, 2, 1), -2);
        Check.due("compare(-1, 1, 0, 1)", x.compare(-1, 1, 0, 1), -2);
    }

    private static void checkClosedAndAbsent() {
        // a, b, a, a, aba, aa; in abaa the border a lies thrice
        WordRuns x = Words.of("abaa");
        Check.due("closed(0)", x.closed(0), 6);
        Check.due("closed(1)", x.closed(1), 3);
        Check.due("closed(2)", x.closed(2), 0);
        Check.due("closed(3)", x.closed(3), -1);
        Check.due("closed(-1)", x.closed(-1), -1);
        // bb, aab, aaa, bab
        Check.due("absent(0)", x.absent(0), 4);
        Check.due("absent(1)", x.absent(1), 2);
        Check.due("absent(2)", x.absent(2), 3);
        Check.due("absent(3)", x.absent(3), -1);
        Check.due("absent(-1)", x.absent(-1), -1);
        Check.due("absent of one letter", Words.of("q").absent(0), 1);
        Check.due("absent of one letter", Words.of("q").absent(2), 2);
        Check.due("absent of like letters", Words.of("qqq").absent(1), 4);
    }

    private static void checkSpecialAndGapped() {
        WordRuns x = Words.of("abaabb");
        Check.due("special(0)", x.special(0), 1);
        Check.due("special(1)", x.special(1), 2);
        Check.due("special(2)", x.special(2), 1);
        Check.due("special(3)", x.special(3), 0);
        Check.due("special(6)", x.special(6), 0);
        Check.due("special(7)", x.special(7), 0);
        Check.due("special(-1)", x.special(-1), -1);
        Check.due("special(0) of like letters", Words.of("aaa").special(0), 0);
        WordRuns y = Words.of("abcabab");
        Check.due("gapped(1, 0)", y.gapped(1, 0), 3);
        Check.due("gapped(1, 1)", y.gapped(1, 1), 2);
        Check.due("gapped(1, 2)", y.gapped(1, 2), 0);
        Check.due("gapped(0, 0)", y.gapped(0, 0), 1);
        Check.due("gapped(0, 2)", y.gapped(0, 2), 3);
        Check.due("gapped(119, 0)", y.gapped(119, 0), 0);
        Check.due("gapped(119, 1)", y.gapped(119, 1), 0);
        Check.due("gapped(119, 2)", y.gapped(119, 2), -2);
        Check.due("gapped(120, 0)", y.gapped(120, 0), -1);
        Check.due("gapped(-1, 0)", y.gapped(-1, 0), -1);
        Check.due("gapped(0, 3)", y.gapped(0, 3), -1);
        Check.due("gapped(118) of a full WORD", Words.of("a".repeat(120)).gapped(118, 0), 1);
        Check.due("gapped(119) of a full WORD", Words.of("a".repeat(120)).gapped(119, 0), 0);
    }

    private static void checkChange() {
        WordRuns x = Words.of("caac");
        Check.due("change(0, 0)", x.change(0, 0), 0);
        Check.due("change(0, 1)", x.change(0, 1), 1);
        Check.due("change(2, 0)", x.change(2, 0), 0);
        Check.due("change(2, 1)", x.change(2, 1), 1);
        WordRuns y = Words.of("aabxb");
        Check.due("change(3, 0)", y.change(3, 0), 0);
        Check.due("change(3, 1)", y.change(3, 1), 2);
        Check.due("change(3, 2)", y.change(3, 2), -1);
        Check.due("change(3, -1)", y.change(3, -1), -1);
        Check.due("change(5, 0)", y.change(5, 0), -1);
        Check.due("change(-1, 0)", y.change(-1, 0), -1);
        Check.due("change leaves the WORD", y.letter(3), 'x' - 'a');
        Check.due("change is no ACT", y.count(2), 0);
        Check.due("change leaves the RUNS", y.run(-1, 0), 1);
        Check.due("of several the least", Words.of("q").change(0, 0), 0);
        Check.due("none at all", Words.of("q").change(0, 1), 0);
        // each letter is somewhere else, too: b makes aabaab, all but it and a leave aa and aa alone
        WordRuns all = Words.of("aaxaa" + "bcdefghijklmnopqrstuvwxyz");
        Check.due("change with all letters elsewhere", all.change(2, 0), 1);
        Check.due("RUNS then", all.change(2, 1), 3);
    }

    private static void checkAlikeAndCount() {
        WordRuns x = Words.of("abaab");
        Check.due("alike(0, 3)", x.alike(0, 3), 2);
        Check.due("alike(3, 0)", x.alike(3, 0), 2);
        Check.due("alike(0, 1)", x.alike(0, 1), 0);
        Check.due("alike(1, 1)", x.alike(1, 1), 4);
        Check.due("alike(5, 0)", x.alike(5, 0), -1);
        Check.due("alike(0, 5)", x.alike(0, 5), -1);
        Check.due("alike(-1, 0)", x.alike(-1, 0), -1);
        x.put(0, 25);
        x.keep(1);
        x.feed(0, 0, 0, 0, 0);
        int[] due = {5, 3, 1, 20, 2, 2000};
        for (int what = 0; what < due.length; what++) {
            Check.due("count(" + what + ")", x.count(what), due[what]);
        }
        Check.due("count(6)", x.count(6), -1);
        Check.due("count(-1)", x.count(-1), -1);
    }

    private static void checkWithoutLetters() {
        WordRuns x = new WordRuns();
        Check.due("border(0, 0, -1)", x.border(0, 0, -1), 0);
        Check.due("period(0, 0, 0)", x.period(0, 0, 0), -2);
        Check.due("lyndon(true, -1)", x.lyndon(true, -1), 0);
        Check.due("lyndon(false, 0)", x.lyndon(false, 0), -2);
        Check.due("longest(true, 0)", x.longest(true, 0), -1);
        Check.due("run(-1, 0)", x.run(-1, 0), 0);
        Check.due("run(0, 0)", x.run(0, 0), -1);
        Check.due("squares(0)", x.squares(0), 0);
        Check.due("squares(5)", x.squares(5), -2);
        Check.due("power(1001)", x.power(1001), -2);
        Check.due("cover(0, 0, -1)", x.cover(0, 0, -1), -1);
        Check.due("seed(-1, 0)", x.seed(-1, 0), 0);
        Check.due("seed(0, 0)", x.seed(0, 0), -1);
        Check.due("cloak(1, 0)", x.cloak(1, 0), -1);
        int[] mirrors = {0, 0, 0, 0, -2};
        for (int what = 0; what < mirrors.length; what++) {
            Check.due("mirrors(" + what + ")", x.mirrors(what), mirrors[what]);
        }
        Check.due("factors(-1)", x.factors(-1), 0);
        Check.due("factors(1)", x.factors(1), 0);
        Check.due("bare(0)", x.bare(0), 0);
        Check.due("bare(1)", x.bare(1), -2);
        Check.due("twice(false, 0)", x.twice(false, 0), 0);
        Check.due("twice(true, 1)", x.twice(true, 1), -2);
        Check.due("phrase(-1, 0)", x.phrase(-1, 0), 0);
        Check.due("phrase(0, 0)", x.phrase(0, 0), -1);
        Check.due("ends(0, 0)", x.ends(0, 0), -1);
        Check.due("abel(1)", x.abel(1), 0);
        Check.due("abel(2)", x.abel(2), -2);
        Check.due("often(-1)", x.often(-1), 0);
        Check.due("often(0)", x.often(0), 0);
        Check.due("lies(0, 0, -1)", x.lies(0, 0, -1), -1);
        Check.due("compare(0, 0, 0, 0)", x.compare(0, 0, 0, 0), 0);
        Check.due("closed(0)", x.closed(0), 0);
        Check.due("closed(2)", x.closed(2), -2);
        Check.due("absent(0)", x.absent(0), 0);
        Check.due("absent(1)", x.absent(1), 0);
        Check.due("special(0)", x.special(0), 0);
        Check.due("gapped(0, 2)", x.gapped(0, 2), -2);
        Check.due("change(0, 0)", x.change(0, 0), -1);
        Check.due("alike(0, 0)", x.alike(0, 0), -1);
    }

    private static void checkFull() {
        WordRuns x = Words.of("a".repeat(120));
        Check.due("run(-1, 0)", x.run(-1, 0), 1);
        Check.due("run(0, 4)", x.run(0, 4), 120000);
        Check.due("squares(0)", x.squares(0), 3600);
        Check.due("squares(1)", x.squares(1), 60);
        Check.due("squares(2)", x.squares(2), 1);
        Check.due("squares(3)", x.squares(3), 40 * 118 - 3 * 40 * 39 / 2);
        Check.due("border(0, 120, -1)", x.border(0, 120, -1), 119);
        Check.due("border(0, 120, 118)", x.border(0, 120, 118), 1);
        Check.due("cover(0, 120, -1)", x.cover(0, 120, -1), 120);
        Check.due("seed(-1, 0)", x.seed(-1, 0), 120);
        Check.due("mirrors(0)", x.mirrors(0), 7260);
        Check.due("factors(-1)", x.factors(-1), 120);
        Check.due("absent(2)", x.absent(2), 121);
        Check.due("alike(0, 119)", x.alike(0, 119), 1);
        Check.due("letter(119)", x.letter(119), 0);
        Check.due("letter(120)", x.letter(120), -1);
        Check.due("phrase(-1, 0)", x.phrase(-1, 0), 2);
        Check.due("ends(119, 1)", x.ends(119, 1), 119);
    }

    private static void checkExtremes() {
        for (int odd : new int[] {MAX, MIN, MAX - 1, MIN + 1, -3, 512}) {
            WordRuns x = Words.of("abaab");
            String call = " of " + odd;
            Check.due("border" + call, x.border(odd, odd, odd), -1);
            Check.due("period" + call, x.period(0, odd, 0), -1);
            Check.due("root" + call, x.root(odd, 3, 0), -1);
            Check.due("root what" + call, x.root(0, 3, odd), -1);
            Check.due("cover" + call, x.cover(0, odd, 0), -1);
            Check.due("lies" + call, x.lies(odd, odd, 0), -1);
            Check.due("run" + call, x.run(odd, 0), -1);
            Check.due("seed" + call, x.seed(odd, 0), -1);
            Check.due("phrase" + call, x.phrase(odd, 0), -1);
            Check.due("ends" + call, x.ends(odd, 0), -1);
            Check.due("cloak" + call, x.cloak(odd, 0), -1);
            Check.due("factors" + call, x.factors(odd), odd > 0 ? 0 : -1);
            Check.due("special" + call, x.special(odd), odd > 0 ? 0 : -1);
            Check.due("gapped" + call, x.gapped(odd, 0), -1);
            Check.due("power" + call, x.power(odd), -1);
            Check.due("change" + call, x.change(odd, 0), -1);
            Check.due("alike" + call, x.alike(odd, odd), -1);
            Check.due("often" + call, x.often(odd), -1);
            Check.due("longest" + call, x.longest(true, odd), -1);
            Check.due("mirror" + call, x.mirror(odd, true), -1);
            Check.due("runs" + call, x.runs(odd), -1);
            Check.due("compare" + call, x.compare(0, 1, odd, odd), -2);
            Check.due("lyndon" + call, x.lyndon(true, odd), odd > 0 ? -2 : -1);
            Check.due("border k" + call, x.border(0, 5, odd), odd > 0 ? -2 : -1);
            Check.due("lies k" + call, x.lies(0, 1, odd), odd > 0 ? -2 : -1);
            Check.due("cover k" + call, x.cover(0, 1, odd), odd > 0 ? -2 : -1);
            Check.due("turn" + call, x.turn(odd, odd), -1);
            Check.due("again" + call, x.again(0, odd), -1);
            Check.due("rotate" + call, x.rotate(odd), -1);
            Check.due("only" + call, x.only(odd, odd), -1);
            Check.due("sub" + call, x.sub(0, odd, odd), -1);
            Check.due("insert" + call, x.insert(odd, 0), -1);
            Check.due("drop" + call, x.drop(odd), -1);
            Check.due("keep" + call, x.keep(odd), -1);
            Check.due("back" + call, x.back(odd), -1);
        }
    }
}
