/** The boundary cases of promises 21, 23, 24, 26, 27, 33, 43, 44: RUNS, SQUARES, powers, SEEDS, PHRASES and so on. */
public final class RunEdgesTest {
    private static final int NONE = Edges.NONE;
    private static final int REFUSED = Edges.REFUSED;
    private static final int MAX = Edges.MAX;
    private static final int MIN = Edges.MIN;
    private static final String ALL_A = "a".repeat(120);
    private static final String ALPHABET = "abcdefghijklmnopqrstuvwxyz";

    private RunEdgesTest() {
    }

    public static void main(String[] args) throws IllegalAccessException {
        Edges.run(RunEdgesTest.class, 21, 23, 24, 26, 27, 33, 43, 44);
    }

    /** All RUNS of a word, each as i, j, PERIOD, LYNDON PART, EXPONENT. */
    private static void runs(String word, int[]... due) {
        WordRuns x = Words.of(word);
        Check.due("RUNS of " + word, x.run(NONE, 0), due.length);
        for (int k = 0; k < due.length; k++) {
            for (int what = 0; what <= 4; what++) {
                Check.due("run(" + k + ", " + what + ") of " + word, x.run(k, what), due[k][what]);
            }
        }
        Check.due("run(" + due.length + ", 0) of " + word, x.run(due.length, 0), NONE);
    }

    private static void squares(String word, int... due) {
        WordRuns x = Words.of(word);
        for (int what = 0; what < due.length; what++) {
            Check.due("squares(" + what + ") of " + word, x.squares(what), due[what]);
        }
    }

    /** All SEEDS of a word, each as its length and where it begins. */
    private static void seeds(String word, int[]... due) {
        WordRuns x = Words.of(word);
        Check.due("SEEDS of " + word, x.seed(NONE, 0), due.length);
        for (int k = 0; k < due.length; k++) {
            Check.due("seed(" + k + ", 0) of " + word, x.seed(k, 0), due[k][0]);
            Check.due("seed(" + k + ", 1) of " + word, x.seed(k, 1), due[k][1]);
        }
        Check.due("seed(" + due.length + ", 0) of " + word, x.seed(due.length, 0), NONE);
    }

    // ---- promise 21: run ----

    // "as long as 2 p at least"
    static void promise21TwiceThePeriodAtLeast() {
        runs("aa", new int[] {0, 2, 1, 0, 2000});
        runs("a");
        runs("abab", new int[] {0, 4, 2, 0, 2000});
        runs("aba");
        runs("abcabc", new int[] {0, 6, 3, 0, 2000});
        runs("abcab");
    }

    // "that has not p as PERIOD if it had one PLACE more on either side"
    static void promise21OnePlaceMoreOnEitherSide() {
        runs("caab", new int[] {1, 3, 1, 1, 2000});
        runs("aaab", new int[] {0, 3, 1, 0, 3000});
        runs("baaa", new int[] {1, 4, 1, 1, 3000});
        runs("cababad", new int[] {1, 6, 2, 1, 2500});
    }

    // RUNS may begin with the first letter and end with the last one
    static void promise21UpToTheEnds() {
        runs("aabb", new int[] {0, 2, 1, 0, 2000}, new int[] {2, 4, 1, 2, 2000});
        runs("bcbca", new int[] {0, 4, 2, 0, 2000});
        runs("abcbc", new int[] {1, 5, 2, 1, 2000});
    }

    // "a least PERIOD p": no RUN for a PERIOD that is not the least
    static void promise21TheLeastPeriod() {
        runs("aaaa", new int[] {0, 4, 1, 0, 4000});
        runs("abababab", new int[] {0, 8, 2, 0, 4000});
    }

    // "RUNS by i, then by p"
    static void promise21ByBeginThenByPeriod() {
        runs("aabaab", new int[] {0, 2, 1, 0, 2000}, new int[] {0, 6, 3, 0, 2000}, new int[] {3, 5, 1, 3, 2000});
        runs("ababb", new int[] {0, 4, 2, 0, 2000}, new int[] {3, 5, 1, 3, 2000});
        runs("abbabbcc", new int[] {0, 6, 3, 0, 2000}, new int[] {1, 3, 1, 1, 2000}, new int[] {4, 6, 1, 4, 2000},
            new int[] {6, 8, 1, 6, 2000});
    }

    // "the first PLACE from i on at which a LYNDON (UP) PART as long as the PERIOD begins"
    static void promise21TheFirstAndTheLastPlaceOfALyndonPart() {
        runs("abcabc", new int[] {0, 6, 3, 0, 2000});
        runs("bcabca", new int[] {0, 6, 3, 2, 2000});
        runs("cabcabcab", new int[] {0, 9, 3, 1, 3000});
        runs("zyzy", new int[] {0, 4, 2, 1, 2000});
        runs("xzyzy", new int[] {1, 5, 2, 2, 2000});
    }

    // "in thousandths, downwards"
    static void promise21Downwards() {
        Check.due("8 by 3", Words.of("abcabcab").run(0, 4), 2666);
        Check.due("7 by 3", Words.of("abcabca").run(0, 4), 2333);
        Check.due("13 by 6", Words.of("abcdefabcdefa").run(0, 4), 2166);
        Check.due("9 by 3", Words.of("abcabcabc").run(0, 4), 3000);
    }

    // "k NONE, what 0: how many"
    static void promise21HowMany() {
        WordRuns x = Words.of("aabb");
        Check.due("run(-1, 0)", x.run(NONE, 0), 2);
        for (int what : new int[] {-1, 1, 2, 3, 4, 5, MAX, MIN}) {
            Check.due("run(-1, " + what + ")", x.run(NONE, what), NONE);
        }
    }

    // "NONE without these, also where there are not so many"
    static void promise21NotSoMany() {
        for (int what = 0; what <= 4; what++) {
            int each = what;
            WordRuns x = Words.of("aabb");
            Check.holds("the last", x.run(1, what) >= 0);
            for (int k : new int[] {2, 3, 120, MAX, -2, MIN}) {
                Check.due("run(" + k + ", " + each + ")", x.run(k, each), NONE);
            }
        }
    }

    static void promise21What() {
        Edges.whatBounds(4, () -> Words.of("aabb"), (x, what) -> x.run(0, what));
        Edges.whatBounds(4, () -> Words.of("aabb"), (x, what) -> x.run(1, what));
    }

    static void promise21WithoutRuns() {
        Check.due("without letters", new WordRuns().run(NONE, 0), 0);
        Check.due("k 0 without letters", new WordRuns().run(0, 0), NONE);
        Check.due("one letter", Words.of("q").run(NONE, 0), 0);
        Check.due("unlike letters", Words.of("abc").run(NONE, 0), 0);
        Check.due("k 0 of unlike letters", Words.of("abc").run(0, 0), NONE);
    }

    static void promise21Of120Letters() {
        runs(ALL_A, new int[] {0, 120, 1, 0, 120000});
        String sixty = "a".repeat(59) + "b";
        runs(sixty + sixty, new int[] {0, 59, 1, 0, 59000}, new int[] {0, 120, 60, 0, 2000},
            new int[] {60, 119, 1, 60, 59000});
    }

    // they are those of the WORD that there is now
    static void promise21BehindAnAct() {
        WordRuns x = Words.of("aab");
        Check.due("RUNS", x.run(NONE, 0), 1);
        x.put(1, 1);
        Check.due("run(0, 0)", x.run(0, 0), 1);
        x.drop(2);
        Check.due("RUNS behind drop", x.run(NONE, 0), 0);
        x.undo();
        Check.due("RUNS behind undo", x.run(NONE, 0), 1);
    }

    // ---- promise 23: squares ----

    // what 0 to 5; "NONE for others"
    static void promise23What() {
        Edges.whatBounds(5, () -> Words.of("aa"), WordRuns::squares);
    }

    // "(0)", "(-2)"
    static void promise23WithoutSquares() {
        squares("", 0, 0, 0, 0, 0, REFUSED, NONE);
        squares("a", 0, 0, 0, 0, 0, REFUSED, NONE);
        squares("aba", 0, 0, 0, 0, 0, REFUSED, NONE);
        squares("abcab", 0, 0, 0, 0, 0, REFUSED, NONE);
    }

    // "Where NONE and another answer fit, it is NONE"
    static void promise23NoneAheadOfNoPlace() {
        Check.due("squares(6)", new WordRuns().squares(6), NONE);
        Check.due("squares(-1)", new WordRuns().squares(-1), NONE);
        Check.due("squares(-2)", Words.of("ab").squares(-2), NONE);
    }

    // a SQUARE is "a word twice", of "1 letter at least"
    static void promise23OneLetterTwice() {
        squares("aa", 1, 1, 1, 0, 2, 0);
        squares("baa", 1, 1, 1, 0, 2, 1);
    }

    static void promise23AllOfTheWord() {
        squares("abcabc", 1, 1, 1, 0, 6, 0);
    }

    // "a CUBE: three times": two times and a half is none
    static void promise23Cubes() {
        squares("aa", 1, 1, 1, 0, 2, 0);
        squares("aaa", 2, 1, 1, 1, 2, 0);
        squares("ababa", 2, 2, 2, 0, 4, 0);
        squares("ababab", 3, 2, 2, 1, 4, 0);
        squares("xababab", 3, 2, 2, 1, 4, 1);
    }

    // "each by its PLACES": like ones count each
    static void promise23LikeOnesAndUnlikeWords() {
        squares("aabaa", 2, 1, 1, 0, 2, 0);
        squares("aabb", 2, 2, 2, 0, 2, 0);
        // its half lies further ahead, too
        squares("abxabab", 1, 1, 1, 0, 4, 3);
    }

    // "how many of them whose half is its own ROOT"
    static void promise23TheHalfIsItsOwnRoot() {
        squares("aaaa", 4, 2, 1, 2, 4, 0);
        squares("abababab", 6, 3, 2, 3, 8, 0);
        squares("ddd", 2, 1, 1, 1, 2, 0);
    }

    // "the first PLACE of one so long"
    static void promise23TheFirstOfTheLongest() {
        squares("aabcbc", 2, 2, 2, 0, 4, 2);
        squares("ababcdcd", 2, 2, 2, 0, 4, 0);
    }

    static void promise23Of120Letters() {
        squares(ALL_A, 3600, 60, 1, 2380, 120, 0);
    }

    // ---- promise 24: power ----

    // "(1001 to 120000)", "NONE for others"
    static void promise24TheLeastAndTheGreatest() {
        WordRuns x = Words.of(ALL_A);
        Check.due("power(1000)", x.power(1000), NONE);
        Check.due("power(1001)", x.power(1001), 2);
        Check.due("power(120000)", x.power(120000), 120);
        Check.due("power(120001)", x.power(120001), NONE);
        for (int other : new int[] {-1, 0, 1, 999, -1001, 200000, MAX, MIN}) {
            Check.due("power(" + other + ")", x.power(other), NONE);
        }
    }

    // "so many thousandths .. or more": 4 by 3, 5 by 3, 2, 3
    static void promise24SoManyOrMore() {
        WordRuns x = Words.of("abcabc");
        Check.due("power(1333)", x.power(1333), 4);
        Check.due("power(1334)", x.power(1334), 5);
        Check.due("power(1666)", x.power(1666), 5);
        Check.due("power(1667)", x.power(1667), 6);
        Check.due("power(2000)", x.power(2000), 6);
        Check.due("power(2001)", x.power(2001), REFUSED);
    }

    // "The least j"
    static void promise24TheLeastEnd() {
        WordRuns x = Words.of("abcbdd");
        Check.due("power(1001)", x.power(1001), 4);
        Check.due("power(1500)", x.power(1500), 4);
        Check.due("power(1501)", x.power(1501), 6);
        Check.due("power(2000)", x.power(2000), 6);
        Check.due("the first two letters", Words.of("aab").power(2000), 2);
        Check.due("the last letter", Words.of("abcdefa").power(1001), 7);
    }

    // "-2: there is none"
    static void promise24ThereIsNone() {
        Check.due("unlike letters", Words.of("abcd").power(1001), REFUSED);
        Check.due("one letter", Words.of("a").power(1001), REFUSED);
        Check.due("without letters", new WordRuns().power(1001), REFUSED);
        Check.due("without letters, the greatest", new WordRuns().power(120000), REFUSED);
    }

    static void promise24NoneAheadOfNoPower() {
        Check.due("power(1000) without letters", new WordRuns().power(1000), NONE);
        Check.due("power(120001) without letters", new WordRuns().power(120001), NONE);
        Check.due("power(120001) of unlike letters", Words.of("abcd").power(120001), NONE);
    }

    // EXPONENTS with one letter more than the least PERIOD
    static void promise24OneLetterMoreThanThePeriod() {
        String word = "a" + "bcdefghijklmnopqrst".repeat(7).substring(0, 119);
        Check.due("of a long word", Words.of(word).power(1001), 21);
        WordRuns most = Words.of("a" + "b".repeat(118) + "a");
        Check.due("power(119000)", most.power(119000), REFUSED);
        Check.due("power(118000)", most.power(118000), 119);
        Check.due("power(118001)", most.power(118001), REFUSED);
        Check.due("26 letters and the first once more", Words.of(ALPHABET + "a").power(1038), 27);
        Check.due("one thousandth more", Words.of(ALPHABET + "a").power(1039), REFUSED);
    }

    static void promise24Of119And120() {
        Check.due("119 like letters", Words.of("a".repeat(119)).power(120000), REFUSED);
        Check.due("119 like letters", Words.of("a".repeat(119)).power(119000), 119);
        Check.due("119 like letters", Words.of("a".repeat(119)).power(119001), REFUSED);
        Check.due("120 like letters", Words.of(ALL_A).power(119001), 120);
        Check.due("the last one unlike", Words.of("a".repeat(119) + "b").power(119001), REFUSED);
    }

    // ---- promise 26: seed ----

    // "Of the k-th SEED, the shortest first, of like ones the one that begins first"
    static void promise26TheShortestFirst() {
        seeds("abab", new int[] {2, 0}, new int[] {2, 1}, new int[] {3, 0}, new int[] {3, 1}, new int[] {4, 0});
    }

    // "(each word once, where it begins first)"
    static void promise26EachWordOnce() {
        seeds("aaa", new int[] {1, 0}, new int[] {2, 0}, new int[] {3, 0});
        // that begins first of those that are SEEDS
        seeds("aabab", new int[] {3, 1}, new int[] {5, 0});
        seeds("babbaa", new int[] {4, 1}, new int[] {6, 0});
    }

    // "k NONE, what 0: how many"
    static void promise26HowMany() {
        WordRuns x = Words.of("abab");
        Check.due("seed(-1, 0)", x.seed(NONE, 0), 5);
        for (int what : new int[] {-1, 1, 2, MAX, MIN}) {
            Check.due("seed(-1, " + what + ")", x.seed(NONE, what), NONE);
        }
    }

    // "NONE without these, also where there are not so many"
    static void promise26NotSoMany() {
        WordRuns x = Words.of("abab");
        for (int what = 0; what <= 1; what++) {
            Check.holds("the last", x.seed(4, what) >= 0);
            for (int k : new int[] {5, 6, 120, MAX, -2, MIN}) {
                Check.due("seed(" + k + ", " + what + ")", x.seed(k, what), NONE);
            }
        }
    }

    static void promise26What() {
        Edges.whatBounds(1, () -> Words.of("abab"), (x, what) -> x.seed(0, what));
        Edges.whatBounds(1, () -> Words.of("abab"), (x, what) -> x.seed(4, what));
    }

    // the WORD itself is one, the only one of unlike letters
    static void promise26TheWordItself() {
        seeds("q", new int[] {1, 0});
        seeds("ab", new int[] {2, 0});
        seeds("abc", new int[] {3, 0});
    }

    // "if it may stick out on both sides"
    static void promise26StickingOut() {
        // of bab: ab lies at -1, too, ba at 2, too; of acbacba each PART of three letters lies so on a side or on both
        seeds("bab", new int[] {2, 0}, new int[] {2, 1}, new int[] {3, 0});
        seeds("acbacba", new int[] {3, 0}, new int[] {3, 1}, new int[] {3, 2}, new int[] {4, 0}, new int[] {4, 1},
            new int[] {4, 2}, new int[] {5, 0}, new int[] {5, 1}, new int[] {5, 2}, new int[] {6, 0},
            new int[] {6, 1}, new int[] {7, 0});
    }

    // a PLACE between two of them is not covered
    static void promise26AGapOfOnePlace() {
        seeds("abcab", new int[] {3, 0}, new int[] {3, 1}, new int[] {3, 2}, new int[] {4, 0}, new int[] {4, 1},
            new int[] {5, 0});
        seeds("abxcab", new int[] {4, 0}, new int[] {4, 1}, new int[] {4, 2}, new int[] {5, 0}, new int[] {5, 1},
            new int[] {6, 0});
    }

    // "a PART of the WORD": a word that would cover, but does not LIE in it, is none
    static void promise26APartOfTheWord() {
        // aba would cover aab from -2 and 1 on, and ab does not come to the first letter
        seeds("aab", new int[] {3, 0});
    }

    static void promise26WithoutLetters() {
        Check.due("how many", new WordRuns().seed(NONE, 0), 0);
        Check.due("k 0", new WordRuns().seed(0, 0), NONE);
        Check.due("k 0", new WordRuns().seed(0, 1), NONE);
    }

    static void promise26Of120Letters() {
        WordRuns x = Words.of(ALL_A);
        Check.due("how many", x.seed(NONE, 0), 120);
        Check.due("k 0", x.seed(0, 0), 1);
        Check.due("k 119", x.seed(119, 0), 120);
        Check.due("k 119", x.seed(119, 1), 0);
        Check.due("k 120", x.seed(120, 0), NONE);
        Check.due("ab 60 times", Words.of("ab".repeat(60)).seed(NONE, 0), 2 * 118 + 1);
    }

    // ---- promise 27: cloak ----

    // "a length (1 and more)", "NONE without these"
    static void promise27Lengths() {
        WordRuns x = Words.of("abcab");
        int[] lengths = {-2, -1, 0, 6, 7, 120, 121, MAX, MIN};
        for (int length : lengths) {
            Check.due("cloak(" + length + ", 0)", x.cloak(length, 0), NONE);
            Check.due("cloak(" + length + ", 1)", x.cloak(length, 1), NONE);
        }
        Check.due("cloak(1, 0)", x.cloak(1, 0), 2);
        Check.due("cloak(1, 1)", x.cloak(1, 1), 0);
        Check.due("cloak(5, 0)", x.cloak(5, 0), 5);
        Check.due("cloak(5, 1)", x.cloak(5, 1), 0);
    }

    static void promise27What() {
        Edges.whatBounds(1, () -> Words.of("abc"), (x, what) -> x.cloak(1, what));
        Edges.whatBounds(1, () -> Words.of("abc"), (x, what) -> x.cloak(3, what));
    }

    // "(of several the one that begins first)"
    static void promise27TheOneThatBeginsFirst() {
        WordRuns x = Words.of("abab");
        Check.due("cloak(1, 1)", x.cloak(1, 1), 0);
        WordRuns later = Words.of("cabab");
        Check.due("cloak(1, 1)", later.cloak(1, 1), 1);
        Check.due("cloak(2, 0)", later.cloak(2, 0), 4);
        Check.due("cloak(2, 1)", later.cloak(2, 1), 1);
    }

    // PLACES in two of them count once
    static void promise27OverItself() {
        WordRuns x = Words.of("aaab");
        Check.due("cloak(2, 0)", x.cloak(2, 0), 3);
        Check.due("cloak(3, 0)", x.cloak(3, 0), 3);
        Check.due("ababa", Words.of("ababa").cloak(3, 0), 5);
    }

    // "LIES": all of its letters within
    static void promise27AllOfThemWithin() {
        WordRuns x = Words.of("abcab");
        Check.due("cloak(3, 0)", x.cloak(3, 0), 3);
        Check.due("cloak(3, 1)", x.cloak(3, 1), 0);
        Check.due("cloak(2, 0)", x.cloak(2, 0), 4);
    }

    static void promise27WithoutLetters() {
        Check.due("cloak(1, 0)", new WordRuns().cloak(1, 0), NONE);
        Check.due("cloak(0, 0)", new WordRuns().cloak(0, 0), NONE);
    }

    static void promise27Of120Letters() {
        WordRuns x = Words.of(ALL_A);
        Check.due("cloak(1, 0)", x.cloak(1, 0), 120);
        Check.due("cloak(120, 0)", x.cloak(120, 0), 120);
        Check.due("cloak(120, 1)", x.cloak(120, 1), 0);
        Check.due("cloak(121, 0)", x.cloak(121, 0), NONE);
    }

    // ---- promise 33: phrase ----

    private static void phrases(String word, int[]... due) {
        WordRuns x = Words.of(word);
        Check.due("PHRASES of " + word, x.phrase(NONE, 0), due.length);
        for (int k = 0; k < due.length; k++) {
            for (int what = 0; what <= 2; what++) {
                Check.due("phrase(" + k + ", " + what + ") of " + word, x.phrase(k, what), due[k][what]);
            }
        }
        Check.due("phrase(" + due.length + ", 0) of " + word, x.phrase(due.length, 0), NONE);
    }

    // "one letter, if there is none", "(-2: none)"
    static void promise33OneLetterIfThereIsNone() {
        phrases("q", new int[] {0, 1, REFUSED});
        phrases("ab", new int[] {0, 1, REFUSED}, new int[] {1, 1, REFUSED});
        phrases("aba", new int[] {0, 1, REFUSED}, new int[] {1, 1, REFUSED}, new int[] {2, 1, 0});
    }

    // "(it may reach into itself)"
    static void promise33IntoItself() {
        phrases("aa", new int[] {0, 1, REFUSED}, new int[] {1, 1, 0});
        phrases("aaaa", new int[] {0, 1, REFUSED}, new int[] {1, 3, 0});
        phrases("ababa", new int[] {0, 1, REFUSED}, new int[] {1, 1, REFUSED}, new int[] {2, 3, 0});
    }

    // "each the longest PART from there", up to the end at most
    static void promise33TheLongestUpToTheEnd() {
        phrases("abcabc", new int[] {0, 1, REFUSED}, new int[] {1, 1, REFUSED}, new int[] {2, 1, REFUSED},
            new int[] {3, 3, 0});
        phrases("abcabd", new int[] {0, 1, REFUSED}, new int[] {1, 1, REFUSED}, new int[] {2, 1, REFUSED},
            new int[] {3, 2, 0}, new int[] {5, 1, REFUSED});
    }

    // "the least earlier PLACE at which it LIES"
    static void promise33TheLeastEarlierPlace() {
        phrases("aabab", new int[] {0, 1, REFUSED}, new int[] {1, 1, 0}, new int[] {2, 1, REFUSED},
            new int[] {3, 2, 1});
        phrases("abaaab", new int[] {0, 1, REFUSED}, new int[] {1, 1, REFUSED}, new int[] {2, 1, 0},
            new int[] {3, 2, 2}, new int[] {5, 1, 1});
    }

    static void promise33HowMany() {
        WordRuns x = Words.of("aba");
        Check.due("phrase(-1, 0)", x.phrase(NONE, 0), 3);
        for (int what : new int[] {-1, 1, 2, 3, MAX, MIN}) {
            Check.due("phrase(-1, " + what + ")", x.phrase(NONE, what), NONE);
        }
    }

    // "NONE without these, also where there are not so many"
    static void promise33NotSoMany() {
        WordRuns x = Words.of("aba");
        for (int what = 0; what <= 2; what++) {
            for (int k : new int[] {3, 4, 120, MAX, -2, MIN}) {
                Check.due("phrase(" + k + ", " + what + ")", x.phrase(k, what), NONE);
            }
        }
    }

    static void promise33What() {
        Edges.whatBounds(2, () -> Words.of("aba"), (x, what) -> x.phrase(0, what));
        Edges.whatBounds(2, () -> Words.of("aba"), (x, what) -> x.phrase(2, what));
    }

    static void promise33WithoutLetters() {
        Check.due("how many", new WordRuns().phrase(NONE, 0), 0);
        for (int what = 0; what <= 2; what++) {
            Check.due("k 0", new WordRuns().phrase(0, what), NONE);
        }
    }

    static void promise33Of120Letters() {
        phrases(ALL_A, new int[] {0, 1, REFUSED}, new int[] {1, 119, 0});
        phrases("a".repeat(119) + "b", new int[] {0, 1, REFUSED}, new int[] {1, 118, 0},
            new int[] {119, 1, REFUSED});
    }

    // ---- promise 43: gapped ----

    private static void gapped(String word, int gap, int... due) {
        WordRuns x = Words.of(word);
        for (int what = 0; what < due.length; what++) {
            Check.due("gapped(" + gap + ", " + what + ") of " + word, x.gapped(gap, what), due[what]);
        }
    }

    // "(0 to 119)", "NONE for others"
    static void promise43Gaps() {
        WordRuns x = Words.of("aa");
        for (int gap : new int[] {-1, -2, 120, 121, MAX, MIN}) {
            for (int what = 0; what <= 2; what++) {
                Check.due("gapped(" + gap + ", " + what + ")", x.gapped(gap, what), NONE);
            }
        }
        gapped("aa", 0, 1, 1, 0);
        gapped("aa", 119, 0, 0, REFUSED);
    }

    static void promise43What() {
        Edges.whatBounds(2, () -> Words.of("aa"), (x, what) -> x.gapped(0, what));
        Edges.whatBounds(2, () -> Words.of("aa"), (x, what) -> x.gapped(119, what));
    }

    // "(0)", "(-2)"
    static void promise43ThereIsNone() {
        gapped("", 0, 0, 0, REFUSED, NONE);
        gapped("a", 0, 0, 0, REFUSED, NONE);
        gapped("ab", 0, 0, 0, REFUSED, NONE);
        gapped("aa", 1, 0, 0, REFUSED, NONE);
    }

    static void promise43NoneAheadOfNoPlace() {
        Check.due("gapped(120, 2)", new WordRuns().gapped(120, 2), NONE);
        Check.due("gapped(0, 3)", new WordRuns().gapped(0, 3), NONE);
        Check.due("gapped(-1, 2)", new WordRuns().gapped(-1, 2), NONE);
    }

    // "u of 1 letter at least", and all of the WORD
    static void promise43OneLetterAndAllOfIt() {
        gapped("aba", 1, 1, 1, 0);
        gapped("abxab", 1, 1, 2, 0);
        gapped("abxyab", 2, 1, 2, 0);
        gapped("abxyab", 3, 2, 1, 0);
        gapped("abxyab", 1, 0, 0, REFUSED);
    }

    // "(by PLACES and u)": of one PART two words may be u, and of one PLACE two PARTS
    static void promise43ByPlacesAndWords() {
        gapped("aaaa", 0, 4, 2, 0);
        gapped("aaaa", 1, 2, 1, 0);
        gapped("aaaaa", 1, 4, 2, 0);
    }

    static void promise43TheFirstOfTheLongest() {
        gapped("aabxab", 1, 1, 2, 1);
        gapped("cxcabxab", 1, 2, 2, 3);
        gapped("abxabxab", 1, 4, 2, 0);
    }

    static void promise43Of120Letters() {
        gapped(ALL_A, 118, 1, 1, 0);
        gapped(ALL_A, 119, 0, 0, REFUSED);
        gapped(ALL_A, 0, 3600, 60, 0);
        gapped("a" + "b".repeat(118) + "a", 118, 1, 1, 0);
    }

    // ---- promise 44: change ----

    static void promise44Places() {
        Edges.placeBounds((x, place) -> x.change(place, 0));
        Edges.placeBounds((x, place) -> x.change(place, 1));
    }

    static void promise44What() {
        Edges.whatBounds(1, () -> Words.of("abc"), (x, what) -> x.change(0, what));
        Edges.whatBounds(1, () -> Words.of("abc"), (x, what) -> x.change(2, what));
    }

    private static void change(String word, int place, int letter, int runs) {
        WordRuns x = Words.of(word);
        Check.due("change(" + place + ", 0) of " + word, x.change(place, 0), letter);
        Check.due("change(" + place + ", 1) of " + word, x.change(place, 1), runs);
    }

    // "all letters (0 to 25)": a and z may be the ones
    static void promise44TheFirstAndTheLastLetter() {
        change("ab", 1, 0, 1);
        change("zb", 1, 25, 1);
        change("bz", 0, 25, 1);
        change("yz", 0, 25, 1);
    }

    // "(of several the least)"
    static void promise44OfSeveralTheLeast() {
        change("q", 0, 0, 0);
        change("bxc", 1, 1, 1);
        change("cxb", 1, 1, 1);
        change("aab", 2, 0, 1);
    }

    // the letter that is there may be the one
    static void promise44TheLetterThatIsThere() {
        change("aabaab", 2, 1, 3);
        change("zz", 0, 25, 1);
    }

    // a letter that is nowhere else may be the one: less RUNS come with each that is
    static void promise44ALetterThatIsNowhereElse() {
        change("bbxbb", 2, 0, 2);
        change("aaxaa", 2, 1, 2);
    }

    static void promise44WithoutLettersAndOneLetter() {
        Check.due("without letters", new WordRuns().change(0, 0), NONE);
        Check.due("without letters", new WordRuns().change(0, 1), NONE);
        change("z", 0, 0, 0);
    }

    // "were it at a PLACE": it is not, and nothing is changed
    static void promise44NothingIsChanged() {
        Edges.nothingHappens("change(0, 0)", Edges::busy, x -> x.change(0, 0), Edges.busy().change(0, 0));
        Edges.nothingHappens("change(4, 1)", Edges::busy, x -> x.change(4, 1), Edges.busy().change(4, 1));
        Edges.nothingHappens("change(5, 0)", Edges::busy, x -> x.change(5, 0), NONE);
        WordRuns x = Words.of("aabxb");
        Check.due("RUNS", x.run(NONE, 0), 1);
        x.change(3, 0);
        Check.due("RUNS behind it", x.run(NONE, 0), 1);
        Check.due("the RUN behind it", x.run(0, 1), 2);
    }

    static void promise44Of120Letters() {
        change(ALL_A, 119, 0, 1);
        change(ALL_A, 0, 0, 1);
        WordRuns x = Words.of(ALL_A);
        Check.due("change(120, 0)", x.change(120, 0), NONE);
        change("a".repeat(119) + "z", 119, 0, 1);
    }
}
