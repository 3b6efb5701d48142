import java.util.Random;

/** Promises 15 to 38 and 40 to 46: the answers over many words are those of the slow reading of the document. */
public final class SlowWordTest {
    private static final int MOST_CALLS = 500;

    private static String word;
    private static SlowWord slow;
    private static WordRuns x;
    private static int calls;

    private SlowWordTest() {
    }

    public static void main(String[] args) {
        Random random = new Random(11);
        for (int length = 0; length <= 7; length++) {
            for (String each : Words.all(length, 2)) {
                checkAll(each, random);
            }
        }
        for (String each : Words.all(5, 3)) {
            checkAll(each, random);
        }
        for (int round = 0; round < 150; round++) {
            int length = 6 + random.nextInt(10);
            checkAll(Words.spread(random, Words.nearPower(random, length, 1 + random.nextInt(4))), random);
            checkAll(Words.random(random, length, 2 + random.nextInt(3)), random);
        }
        for (int round = 0; round < 30; round++) {
            checkLong(Words.nearPower(random, 20 + random.nextInt(30), 1 + random.nextInt(4)), random);
            checkLong(Words.random(random, 20 + random.nextInt(30), 2 + random.nextInt(20)), random);
        }
        checkLong(Words.fib(8), random);
        checkLong(Words.morse(5), random);
        for (String full : new String[] {Words.fib(10) + Words.fib(7) + "abaabaabab", "ab".repeat(60), "a".repeat(120),
            Words.morse(6) + Words.fib(9) + "a", Words.random(random, 120, 26), Words.nearPower(random, 120, 3)}) {
            Check.due("letters of " + full, full.length(), 120);
            checkFull(full, random);
        }
        Check.close("SlowWordTest");
    }

    private static void take(String each) {
        word = each;
        slow = new SlowWord(each);
        x = Words.of(each);
        calls = 0;
    }

    /** A new object with the same word comes before the 512 calls are used up. */
    private static WordRuns next() {
        calls++;
        if (calls % MOST_CALLS == 0) {
            x = Words.of(word);
        }
        return x;
    }

    private static void due(String call, int got, int want) {
        Check.due("'" + word + "' " + call, got, want);
    }

    private static void checkAll(String each, Random random) {
        take(each);
        checkWhole(random);
        checkChanges(random);
        for (int k = -2; k <= word.length() + 1; k++) {
            due("lyndon(true, " + k + ")", next().lyndon(true, k), slow.lyndon(true, k));
            due("lyndon(false, " + k + ")", next().lyndon(false, k), slow.lyndon(false, k));
        }
        for (int i = -1; i <= word.length() + 1; i++) {
            for (int j = -1; j <= word.length() + 1; j++) {
                checkPart(i, j, random);
            }
        }
    }

    private static void checkLong(String each, Random random) {
        take(each);
        checkWhole(random);
        for (int round = 0; round < 60; round++) {
            int i = random.nextInt(word.length() + 1);
            checkPart(i, i + random.nextInt(word.length() + 1 - i), random);
        }
        checkPart(0, word.length(), random);
        if (word.length() < 40) {
            checkChanges(random);
        }
    }

    private static void checkFull(String each, Random random) {
        checkLong(each, random);
        for (int i = 0; i < word.length(); i++) {
            checkPart(i, word.length(), random);
        }
    }

    private static void checkWhole(Random random) {
        int n = word.length();
        for (int what = -1; what <= 6; what++) {
            due("squares(" + what + ")", next().squares(what), slow.squares(what));
            due("mirrors(" + what + ")", next().mirrors(what), slow.mirrors(what));
            due("bare(" + what + ")", next().bare(what), slow.bare(what));
            due("twice(false, " + what + ")", next().twice(false, what), slow.twice(false, what));
            due("twice(true, " + what + ")", next().twice(true, what), slow.twice(true, what));
            due("abel(" + what + ")", next().abel(what), slow.abel(what));
            due("closed(" + what + ")", next().closed(what), slow.closed(what));
            due("absent(" + what + ")", next().absent(what), slow.absent(what));
            int gap = random.nextInt(Math.max(2, n)) - 1;
            due("gapped(" + gap + ", " + what + ")", next().gapped(gap, what), slow.gapped(gap, what));
            due("gapped(0, " + what + ")", next().gapped(0, what), slow.gapped(0, what));
        }
        for (int length = -2; length <= n + 2; length++) {
            due("factors(" + length + ")", next().factors(length), slow.factors(length));
            due("special(" + length + ")", next().special(length), slow.special(length));
            for (int what = -1; what <= 2; what++) {
                due("cloak(" + length + ", " + what + ")", next().cloak(length, what), slow.cloak(length, what));
            }
        }
        due("count(5)", next().count(5), slow.exponents());
        due("count(1)", next().count(1), (int) word.chars().distinct().count());
        for (int letter = -2; letter <= 26; letter++) {
            due("often(" + letter + ")", next().often(letter), slow.often(letter));
        }
        for (int thousandths : new int[] {1000, 1001, 1001 + random.nextInt(1000), 1500, 1999, 2000, 2001, 2500,
            2000 + random.nextInt(3000), 3000, 7000, 119000, 119001, 120000, 120001}) {
            due("power(" + thousandths + ")", next().power(thousandths), slow.power(thousandths));
        }
        checkRows(random);
        checkPlaces(random);
    }

    private static void checkRows(Random random) {
        int n = word.length();
        int seeds = slow.seed(-1, 0);
        for (int what = -1; what <= 5; what++) {
            for (int k = -2; k <= n + 1; k++) {
                due("run(" + k + ", " + what + ")", next().run(k, what), slow.run(k, what));
                due("phrase(" + k + ", " + what + ")", next().phrase(k, what), slow.phrase(k, what));
                due("ends(" + k + ", " + what + ")", next().ends(k, what), slow.ends(k, what));
            }
            for (int k = -2; k <= seeds && seeds < 60; k++) {
                due("seed(" + k + ", " + what + ")", next().seed(k, what), slow.seed(k, what));
            }
        }
        for (int k : new int[] {-1, 0, seeds / 2, seeds - 1, seeds, random.nextInt(seeds + 1)}) {
            due("seed(" + k + ", 0)", next().seed(k, 0), slow.seed(k, 0));
            due("seed(" + k + ", 1)", next().seed(k, 1), slow.seed(k, 1));
        }
    }

    private static void checkPlaces(Random random) {
        int n = word.length();
        for (int place = -1; place <= n; place++) {
            due("letter(" + place + ")", next().letter(place),
                place < 0 || place >= n ? -1 : word.charAt(place) - 'a');
            due("longest(true, " + place + ")", next().longest(true, place), slow.longest(true, place));
            due("longest(false, " + place + ")", next().longest(false, place), slow.longest(false, place));
            due("runs(" + place + ")", next().runs(place), slow.runs(place));
            due("mirror(" + place + ", false)", next().mirror(place, false), slow.mirror(place, false));
            due("mirror(" + place + ", true)", next().mirror(place, true), slow.mirror(place, true));
            int other = random.nextInt(n + 2) - 1;
            due("alike(" + place + ", " + other + ")", next().alike(place, other), slow.alike(place, other));
            due("alike(" + place + ", " + place + ")", next().alike(place, place), slow.alike(place, place));
        }
    }

    private static void checkChanges(Random random) {
        for (int round = 0; round < 2; round++) {
            int place = random.nextInt(word.length() + 2) - 1;
            for (int what = -1; what <= 2; what++) {
                due("change(" + place + ", " + what + ")", next().change(place, what), slow.change(place, what));
            }
        }
    }

    private static void checkPart(int i, int j, Random random) {
        String part = "(" + i + ", " + j + ", ";
        for (int k = -2; k <= 3; k++) {
            due("border" + part + k + ")", next().border(i, j, k), slow.border(i, j, k));
            due("period" + part + k + ")", next().period(i, j, k), slow.period(i, j, k));
            due("root" + part + k + ")", next().root(i, j, k), slow.root(i, j, k));
            due("cover" + part + k + ")", next().cover(i, j, k), slow.cover(i, j, k));
            due("lies" + part + k + ")", next().lies(i, j, k), slow.lies(i, j, k));
        }
        int k = random.nextInt(word.length() + 2);
        due("border" + part + k + ")", next().border(i, j, k), slow.border(i, j, k));
        due("period" + part + k + ")", next().period(i, j, k), slow.period(i, j, k));
        due("cover" + part + k + ")", next().cover(i, j, k), slow.cover(i, j, k));
        due("lies" + part + k + ")", next().lies(i, j, k), slow.lies(i, j, k));
        int i2 = random.nextInt(word.length() + 3) - 1;
        int j2 = Math.min(word.length() + 1, i2 + random.nextInt(word.length() + 2));
        due("compare" + part + i2 + ", " + j2 + ")", next().compare(i, j, i2, j2), slow.compare(i, j, i2, j2));
        due("compare" + part + i + ", " + j2 + ")", next().compare(i, j, i, j2), slow.compare(i, j, i, j2));
    }
}
