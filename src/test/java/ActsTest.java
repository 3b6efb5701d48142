import java.util.ArrayList;
import java.util.List;
import java.util.Random;

/** Promises 1, 5 to 14, 39 and 46: ACTS, what is UNDONE and what is KEPT, against a word held as a String. */
public final class ActsTest {
    private static final int NONE = -1;
    private static final int REFUSED = -2;

    private ActsTest() {
    }

    public static void main(String[] args) {
        checkNew();
        checkPut();
        checkInsert();
        checkDrop();
        checkTurn();
        checkAgain();
        checkRotate();
        checkOnly();
        checkSub();
        checkUndo();
        checkShelves();
        Random random = new Random(3);
        for (int round = 0; round < 1000; round++) {
            new Walk(random).go();
        }
        Check.close("ActsTest");
    }

    private static void holds(WordRuns x, String word, int acts) {
        Check.holds("the WORD is " + word + ", not " + Words.read(x), Words.read(x).equals(word));
        Check.due("letters of " + word, x.count(0), word.length());
        Check.due("ACTS behind " + word, x.count(2), acts);
    }

    private static void checkNew() {
        WordRuns x = new WordRuns();
        holds(x, "", 0);
        for (int what = -2; what <= 7; what++) {
            Check.due("count(" + what + ")", x.count(what), what >= 0 && what <= 5 ? 0 : NONE);
        }
        Check.due("undo", x.undo(), NONE);
        Check.due("back", x.back(0), REFUSED);
        Check.due("letter", x.letter(0), NONE);
    }

    private static void checkPut() {
        WordRuns x = Words.of("abc");
        Check.due("put(0, 25)", x.put(0, 25), 0);
        Check.due("put(2, 0)", x.put(2, 0), 2);
        holds(x, "zba", 2);
        Check.due("put(1, 1)", x.put(1, 1), REFUSED);
        Check.due("put(3, 0)", x.put(3, 0), NONE);
        Check.due("put(-1, 0)", x.put(-1, 0), NONE);
        Check.due("put(0, 26)", x.put(0, 26), NONE);
        Check.due("put(0, -1)", x.put(0, -1), NONE);
        Check.due("put(MAX, MIN)", x.put(Integer.MAX_VALUE, Integer.MIN_VALUE), NONE);
        holds(x, "zba", 2);
        Check.due("put without letters", new WordRuns().put(0, 0), NONE);
    }

    private static void checkInsert() {
        WordRuns x = new WordRuns();
        Check.due("insert(1, 0)", x.insert(1, 0), NONE);
        Check.due("insert(0, 1)", x.insert(0, 1), 1);
        Check.due("insert(0, 0)", x.insert(0, 0), 2);
        Check.due("insert(2, 25)", x.insert(2, 25), 3);
        Check.due("insert(1, 5)", x.insert(1, 5), 4);
        holds(x, "afbz", 4);
        Check.due("insert(5, 0)", x.insert(5, 0), NONE);
        Check.due("insert(-1, 0)", x.insert(-1, 0), NONE);
        Check.due("insert(0, 26)", x.insert(0, 26), NONE);
        Check.due("insert(0, -1)", x.insert(0, -1), NONE);
        holds(x, "afbz", 4);
        WordRuns full = Words.of("ab".repeat(60));
        Check.due("insert in a full WORD", full.insert(120, 3), REFUSED);
        Check.due("insert behind a full WORD", full.insert(121, 3), NONE);
        Check.due("insert of none in a full WORD", full.insert(0, 26), NONE);
        holds(full, "ab".repeat(60), 0);
        full.drop(119);
        Check.due("insert the 120th", full.insert(119, 3), 120);
        holds(full, "ab".repeat(59) + "ad", 2);
    }

    private static void checkDrop() {
        WordRuns x = Words.of("abcd");
        Check.due("drop(0)", x.drop(0), 0);
        Check.due("drop(2)", x.drop(2), 3);
        Check.due("drop(2)", x.drop(2), NONE);
        Check.due("drop(-1)", x.drop(-1), NONE);
        holds(x, "bc", 2);
        Check.due("drop(1)", x.drop(1), 2);
        Check.due("drop(0)", x.drop(0), 1);
        Check.due("drop(0) of none", x.drop(0), NONE);
        holds(x, "", 4);
    }

    private static void checkTurn() {
        WordRuns x = Words.of("abcab");
        Check.due("turn(0, 3)", x.turn(0, 3), 2);
        holds(x, "cbaab", 1);
        Check.due("turn(2, 4)", x.turn(2, 4), REFUSED);
        Check.due("turn(2, 2)", x.turn(2, 2), REFUSED);
        Check.due("turn(5, 5)", x.turn(5, 5), REFUSED);
        Check.due("turn(3, 2)", x.turn(3, 2), NONE);
        Check.due("turn(-1, 2)", x.turn(-1, 2), NONE);
        Check.due("turn(0, 6)", x.turn(0, 6), NONE);
        holds(x, "cbaab", 1);
        Check.due("turn(0, 5)", x.turn(0, 5), 4);
        holds(x, "baabc", 2);
        Check.due("turn without letters", new WordRuns().turn(0, 0), REFUSED);
    }

    private static void checkAgain() {
        WordRuns x = Words.of("abc");
        Check.due("again(1, 3)", x.again(1, 3), 5);
        Check.due("again(0, 5)", x.again(0, 5), 10);
        holds(x, "abcbcabcbc", 2);
        Check.due("again(2, 2)", x.again(2, 2), NONE);
        Check.due("again(3, 2)", x.again(3, 2), NONE);
        Check.due("again(-1, 2)", x.again(-1, 2), NONE);
        Check.due("again(0, 11)", x.again(0, 11), NONE);
        holds(x, "abcbcabcbc", 2);
        WordRuns large = Words.of("abcdef".repeat(19));
        Check.due("again beyond 120", large.again(0, 7), REFUSED);
        Check.due("again up to 120", large.again(0, 6), 120);
        Check.due("again of a full WORD", large.again(0, 1), REFUSED);
        Check.due("again of none in a full WORD", large.again(0, 121), NONE);
        holds(large, "abcdef".repeat(20), 1);
        WordRuns late = Words.of("abcdef".repeat(19));
        Check.due("again of a late PART beyond 120", late.again(100, 107), REFUSED);
        Check.due("again of a late PART up to 120", late.again(100, 106), 120);
        holds(late, "abcdef".repeat(19) + "efabcd", 1);
    }

    private static void checkRotate() {
        WordRuns x = Words.of("aabab");
        Check.due("rotate(2)", x.rotate(2), 2);
        holds(x, "babaa", 1);
        Check.due("rotate(0)", x.rotate(0), REFUSED);
        Check.due("rotate(5)", x.rotate(5), REFUSED);
        Check.due("rotate(6)", x.rotate(6), NONE);
        Check.due("rotate(-1)", x.rotate(-1), NONE);
        holds(x, "babaa", 1);
        WordRuns power = Words.of("abab");
        Check.due("rotate(2) of a power", power.rotate(2), REFUSED);
        Check.due("rotate(1) of a power", power.rotate(1), 4);
        holds(power, "baba", 1);
        Check.due("rotate(0) without letters", new WordRuns().rotate(0), REFUSED);
        Check.due("rotate(1) without letters", new WordRuns().rotate(1), NONE);
    }

    private static void checkOnly() {
        WordRuns x = Words.of("abcde");
        Check.due("only(0, 5)", x.only(0, 5), REFUSED);
        Check.due("only(1, 4)", x.only(1, 4), 3);
        holds(x, "bcd", 1);
        Check.due("only(0, 4)", x.only(0, 4), NONE);
        Check.due("only(-1, 2)", x.only(-1, 2), NONE);
        Check.due("only(2, 1)", x.only(2, 1), NONE);
        Check.due("only(2, 2)", x.only(2, 2), 0);
        holds(x, "", 2);
        Check.due("only(0, 0)", x.only(0, 0), REFUSED);
        Check.due("undo", x.undo(), 1);
        holds(x, "bcd", 1);
    }

    private static void checkSub() {
        WordRuns x = Words.of("abac");
        Check.due("sub(0, 1, 4)", x.sub(0, 1, 4), 8);
        holds(x, "bacbbacc", 1);
        Check.due("sub(3, 0, 1)", x.sub(3, 0, 1), REFUSED);
        Check.due("sub(26, 0, 1)", x.sub(26, 0, 1), NONE);
        Check.due("sub(-1, 0, 1)", x.sub(-1, 0, 1), NONE);
        Check.due("sub(0, 0, 9)", x.sub(0, 0, 9), NONE);
        Check.due("sub(3, 2, 1)", x.sub(3, 2, 1), NONE);
        holds(x, "bacbbacc", 1);
        Check.due("sub of an empty PART", x.sub(2, 8, 8), 5);
        holds(x, "babba", 2);
        Check.due("sub of itself", x.sub(0, 1, 2), 5);
        holds(x, "babba", 3);
        Check.due("sub of the whole", x.sub(1, 0, 5), 17);
        holds(x, "babbaababbababbaa", 4);
        Check.due("sub up to nothing", Words.of("aaa").sub(0, 1, 1), 0);
        Check.due("sub up to 120", Words.of("a" + "b".repeat(60)).sub(0, 1, 61), 120);
        Check.due("sub beyond 120", Words.of("a" + "b".repeat(60)).sub(0, 0, 61), REFUSED);
        Check.due("sub beyond 120 of an absent letter", Words.of("b".repeat(120)).sub(0, 0, 120), REFUSED);
        Check.due("sub of all", Words.of("a".repeat(11)).sub(0, 0, 11), REFUSED);
    }

    private static void checkUndo() {
        WordRuns x = new WordRuns();
        for (int act = 0; act < 11; act++) {
            x.insert(act, act);
        }
        Check.due("ACTS behind the 11th", x.count(2), 10);
        for (int left = 9; left >= 0; left--) {
            Check.due("undo", x.undo(), left);
            Check.due("letters behind it", x.count(0), left + 1);
        }
        Check.due("undo of none", x.undo(), NONE);
        holds(x, "a", 0);
        Check.due("an ACT behind", x.put(0, 4), 0);
        Check.due("another", x.insert(0, 4), 2);
        Check.due("undo", x.undo(), 1);
        holds(x, "e", 1);
        Check.due("another for it", x.insert(1, 7), 2);
        holds(x, "eh", 2);
        Check.due("undo", x.undo(), 1);
        Check.due("undo", x.undo(), 0);
        holds(x, "a", 0);
    }

    private static void checkShelves() {
        WordRuns x = new WordRuns();
        Check.due("keep(2)", x.keep(2), NONE);
        Check.due("keep(-1)", x.keep(-1), NONE);
        Check.due("back(2)", x.back(2), NONE);
        Check.due("back(-1)", x.back(-1), NONE);
        Check.due("back(1)", x.back(1), REFUSED);
        Check.due("shelves", x.count(4), 0);
        Check.due("keep(1)", x.keep(1), 0);
        Check.due("shelves", x.count(4), 2);
        Check.due("back(0)", x.back(0), REFUSED);
        Words.tell(x, "'abc'");
        x.put(0, 5);
        Check.due("keep(0)", x.keep(0), 3);
        Check.due("shelves", x.count(4), 3);
        holds(x, "fbc", 1);
        x.drop(0);
        x.feed(1, 2, 3, 4, 5);
        Check.due("back(0)", x.back(0), 3);
        holds(x, "fbc", 0);
        Check.due("undo", x.undo(), NONE);
        Check.due("the TAPE stays", x.count(3), 20);
        x.rotate(1);
        Check.due("back(0) again", x.back(0), 3);
        holds(x, "fbc", 0);
        Check.due("back(1)", x.back(1), 0);
        holds(x, "", 0);
        Check.due("shelves", x.count(4), 3);
        Words.tell(x, "0('a')");
        Check.due("shelves behind tell", x.count(4), 3);
    }

    /** Random ACTS on one object, each beside the same one on Strings; few enough to stay within its 512 calls. */
    private static final class Walk {
        // 12 calls a step at most, 20 more at each fifth one, 121 at the end
        private static final int STEPS = 24;

        private final Random random;
        private final WordRuns x = new WordRuns();
        private final List<String> past = new ArrayList<>();
        private final String[] shelves = new String[2];
        private String w = "";

        Walk(Random random) {
            this.random = random;
        }

        void go() {
            for (int call = 0; call < STEPS; call++) {
                step();
                if (call % 5 == 4 && w.length() < 20) {
                    Check.holds("the WORD is " + w, Words.read(x).equals(w));
                }
                Check.due("ACTS", x.count(2), past.size());
                ask();
            }
            Check.holds("the WORD at the end is " + w, Words.read(x).equals(w));
        }

        private void ask() {
            SlowWord slow = new SlowWord(w);
            int i = random.nextInt(w.length() + 1);
            int j = random.nextInt(w.length() + 1);
            Check.due(w + " border", x.border(i, j, 0), slow.border(i, j, 0));
            Check.due(w + " factors", x.factors(2), slow.factors(2));
            Check.due(w + " alike", x.alike(i, j), slow.alike(i, j));
            if (w.length() < 16) {
                Check.due(w + " runs", x.run(NONE, 0), slow.run(NONE, 0));
                Check.due(w + " seeds", x.seed(NONE, 0), slow.seed(NONE, 0));
                Check.due(w + " ends", x.ends(i, 0), slow.ends(i, 0));
                Check.due(w + " change", x.change(i, 1), slow.change(i, 1));
                Check.due(w + " mirrors", x.mirrors(1), slow.mirrors(1));
                Check.due(w + " all factors", x.factors(NONE), slow.factors(NONE));
                Check.due(w + " phrases", x.phrase(j, 1), slow.phrase(j, 1));
            }
        }

        private void due(String call, int got, int want) {
            Check.due(w + " " + call, got, want);
        }

        private int some() {
            return random.nextInt(w.length() + 3) - 1;
        }

        private void act(String by) {
            past.add(w);
            if (past.size() > 10) {
                past.remove(0);
            }
            w = by;
        }

        private void step() {
            int i = some();
            int j = some();
            int letter = random.nextInt(20) == 0 ? random.nextInt(28) - 1 : random.nextInt(3);
            switch (random.nextInt(12)) {
                case 0: put(i, letter); break;
                case 1: case 2: insert(i, letter); break;
                case 3: drop(i); break;
                case 4: turn(i, j); break;
                case 5: again(i, j); break;
                case 6: rotate(i); break;
                case 7: only(random.nextInt(2) == 0 ? 0 : i, j); break;
                case 8: sub(letter, i, j); break;
                case 9: case 10: undo(); break;
                default: shelf(random.nextInt(3)); break;
            }
        }

        private boolean isPart(int i, int j) {
            return 0 <= i && i <= j && j <= w.length();
        }

        private String signOf(int letter) {
            return String.valueOf((char) ('a' + letter));
        }

        private void put(int i, int letter) {
            int got = x.put(i, letter);
            if (i < 0 || i >= w.length() || letter < 0 || letter > 25) {
                due("put", got, NONE);
            } else if (w.charAt(i) == 'a' + letter) {
                due("put", got, REFUSED);
            } else {
                due("put", got, w.charAt(i) - 'a');
                act(w.substring(0, i) + signOf(letter) + w.substring(i + 1));
            }
        }

        private void insert(int i, int letter) {
            int got = x.insert(i, letter);
            if (i < 0 || i > w.length() || letter < 0 || letter > 25) {
                due("insert", got, NONE);
            } else if (w.length() == 120) {
                due("insert", got, REFUSED);
            } else {
                due("insert", got, w.length() + 1);
                act(w.substring(0, i) + signOf(letter) + w.substring(i));
            }
        }

        private void drop(int i) {
            int got = x.drop(i);
            if (i < 0 || i >= w.length()) {
                due("drop", got, NONE);
            } else {
                due("drop", got, w.charAt(i) - 'a');
                act(w.substring(0, i) + w.substring(i + 1));
            }
        }

        private void other(String call, int got, String by) {
            int unlike = 0;
            for (int place = 0; place < w.length(); place++) {
                unlike += w.charAt(place) == by.charAt(place) ? 0 : 1;
            }
            due(call, got, unlike == 0 ? REFUSED : unlike);
            if (unlike > 0) {
                act(by);
            }
        }

        private void turn(int i, int j) {
            int got = x.turn(i, j);
            if (!isPart(i, j)) {
                due("turn", got, NONE);
            } else {
                String turned = new StringBuilder(w.substring(i, j)).reverse().toString();
                other("turn", got, w.substring(0, i) + turned + w.substring(j));
            }
        }

        private void again(int i, int j) {
            int got = x.again(i, j);
            if (!isPart(i, j) || i == j) {
                due("again", got, NONE);
            } else if (w.length() + j - i > 120) {
                due("again", got, REFUSED);
            } else {
                due("again", got, w.length() + j - i);
                act(w + w.substring(i, j));
            }
        }

        private void rotate(int k) {
            int got = x.rotate(k);
            if (k < 0 || k > w.length()) {
                due("rotate", got, NONE);
            } else {
                other("rotate", got, w.substring(k) + w.substring(0, k));
            }
        }

        private void only(int i, int j) {
            int got = x.only(i, j);
            if (!isPart(i, j)) {
                due("only", got, NONE);
            } else if (j - i == w.length()) {
                due("only", got, REFUSED);
            } else {
                due("only", got, j - i);
                act(w.substring(i, j));
            }
        }

        private void sub(int letter, int i, int j) {
            int got = x.sub(letter, i, j);
            if (letter < 0 || letter > 25 || !isPart(i, j)) {
                due("sub", got, NONE);
                return;
            }
            String by = w.replace(signOf(letter), w.substring(i, j));
            if (!w.contains(signOf(letter)) || by.length() > 120) {
                due("sub", got, REFUSED);
            } else {
                due("sub", got, by.length());
                act(by);
            }
        }

        private void undo() {
            int got = x.undo();
            if (past.isEmpty()) {
                due("undo", got, NONE);
            } else {
                w = past.remove(past.size() - 1);
                due("undo", got, past.size());
            }
        }

        private void shelf(int shelf) {
            if (random.nextInt(4) > 0) {
                due("keep", x.keep(shelf), shelf > 1 ? NONE : w.length());
                if (shelf <= 1) {
                    shelves[shelf] = w;
                }
                return;
            }
            int got = x.back(shelf);
            if (shelf > 1 || shelves[shelf] == null) {
                due("back", got, shelf > 1 ? NONE : REFUSED);
            } else {
                w = shelves[shelf];
                past.clear();
                due("back", got, w.length());
            }
        }
    }
}
