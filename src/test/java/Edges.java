import java.lang.reflect.InvocationTargetException;
import java.lang.reflect.Method;
import java.util.ArrayList;
import java.util.Arrays;
import java.util.Comparator;
import java.util.List;
import java.util.Set;
import java.util.TreeSet;
import java.util.function.Supplier;
import java.util.function.ToIntFunction;

/** Runs the tests of boundary cases, each named after its promise, and holds what they share. */
final class Edges {
    static final int NONE = -1;
    static final int REFUSED = -2;
    static final int MAX = Integer.MAX_VALUE;
    static final int MIN = Integer.MIN_VALUE;
    static final String FULL = "abc".repeat(40);

    private static final int MOST_UNDONE = 10;

    private Edges() {
    }

    interface PlaceCall {
        int of(WordRuns x, int place);
    }

    interface PartCall {
        int of(WordRuns x, int i, int j);
    }

    // ---- the tests of a class, by their names ----

    /** Calls each method promiseNN..(); each of these promises has one at least, and no other promise has. */
    static void run(Class<?> test, int... promises) throws IllegalAccessException {
        Set<Integer> due = new TreeSet<>();
        Arrays.stream(promises).forEach(due::add);
        Set<Integer> met = new TreeSet<>();
        Method[] methods = Arrays.stream(test.getDeclaredMethods())
            .filter(method -> method.getName().matches("promise\\d\\d\\w+"))
            .sorted(Comparator.comparing(Method::getName)).toArray(Method[]::new);
        for (Method method : methods) {
            met.add(Integer.parseInt(method.getName().substring(7, 9)));
            call(method);
        }
        Check.within("");
        Check.holds("promises " + due + " have tests, those that have are " + met, met.equals(due));
        Check.close(test.getName() + ", " + methods.length + " tests");
    }

    private static void call(Method method) throws IllegalAccessException {
        Check.within(method.getName());
        int before = Check.asked();
        try {
            method.invoke(null);
        } catch (InvocationTargetException thrown) {
            Check.holds("no call throws, but " + thrown.getCause() + " came", false);
        }
        Check.holds("something is asked", Check.asked() > before);
    }

    // ---- objects with something of all that can change ----

    /** The WORD abcab behind five ACTS, other words on both SHELVES, five bytes on the TAPE. */
    static WordRuns busy() {
        WordRuns x = Words.of("xyz");
        x.keep(1);
        Words.tell(x, "'bca'");
        x.keep(0);
        x.insert(0, 25);
        x.insert(4, 1);
        x.put(0, 0);
        x.again(0, 1);
        x.drop(5);
        x.undo();
        x.only(0, 5);
        Words.feedText(x, Words.bytes("'qrs'"));
        return x;
    }

    /** 120 letters behind two ACTS, one word on a SHELF, five bytes on the TAPE. */
    static WordRuns full() {
        WordRuns x = Words.of(FULL.substring(0, 119));
        x.keep(0);
        x.insert(119, 5);
        x.put(119, 2);
        Words.feedText(x, Words.bytes("'qrs'"));
        return x;
    }

    /** No letters behind two ACTS, one word on a SHELF, five bytes on the TAPE. */
    static WordRuns without() {
        WordRuns x = Words.of("xy");
        x.keep(1);
        x.only(0, 1);
        x.drop(0);
        Words.feedText(x, Words.bytes("'qrs'"));
        return x;
    }

    // ---- whether anything is changed ----

    static void nothingHappens(String call, Supplier<WordRuns> made, ToIntFunction<WordRuns> refused, int answer) {
        Check.due(call, refused.applyAsInt(made.get()), answer);
        same("behind " + call, () -> {
            WordRuns x = made.get();
            refused.applyAsInt(x);
            return x;
        }, made);
    }

    /** Two objects hold the same: the WORD, what is UNDONE, the SHELVES, the TAPE. */
    static void same(String what, Supplier<WordRuns> one, Supplier<WordRuns> other) {
        List<String> told = story(one);
        List<String> due = story(other);
        for (int at = 0; at < due.size(); at++) {
            Check.holds(what + " it tells " + told.get(at) + ", due is " + due.get(at),
                told.get(at).equals(due.get(at)));
        }
    }

    /** For each question a new object, so that none comes to 512 calls. */
    private static List<String> story(Supplier<WordRuns> made) {
        List<String> story = new ArrayList<>();
        for (int what = 0; what <= 5; what++) {
            story.add("count(" + what + ") " + made.get().count(what));
        }
        story.add("runs " + made.get().run(NONE, 0) + ", factors " + made.get().factors(NONE));
        for (int undone = 0; undone <= MOST_UNDONE; undone++) {
            WordRuns x = made.get();
            StringBuilder left = new StringBuilder();
            for (int step = 0; step < undone; step++) {
                left.append(x.undo()).append(' ');
            }
            story.add("undone " + left + Words.read(x));
        }
        for (int shelf = 0; shelf <= 1; shelf++) {
            WordRuns x = made.get();
            story.add("back(" + shelf + ") " + x.back(shelf) + " " + Words.read(x));
        }
        WordRuns x = made.get();
        story.add("tell() " + x.tell() + " " + Words.read(x));
        return story;
    }

    /** The call is an ACT: one more can be UNDONE, ten at most, and that brings the word back. */
    static void isAct(String call, String before, ToIntFunction<WordRuns> act, int answer, String after) {
        WordRuns x = Words.of(before);
        Check.due(call, act.applyAsInt(x), answer);
        holds(call, x, after);
        Check.due("ACTS behind " + call, x.count(2), 1);
        Check.due("undo() behind " + call, x.undo(), 0);
        holds("undo() behind " + call, x, before);
        Check.due("a second undo() behind " + call, x.undo(), NONE);
        isEleventhAct(call, before, act, answer);
    }

    private static void isEleventhAct(String call, String before, ToIntFunction<WordRuns> act, int answer) {
        WordRuns x = Words.of(before);
        boolean room = before.length() < 120;
        int first = room ? 7 : x.letter(0);
        for (int pair = 0; pair < 5; pair++) {
            Check.holds("ahead of " + call, (room ? x.insert(0, first) : x.drop(0)) >= 0);
            Check.holds("ahead of " + call, (room ? x.drop(0) : x.insert(0, first)) >= 0);
        }
        Check.due("ACTS ahead of " + call, x.count(2), 10);
        Check.due(call + " behind ten ACTS", act.applyAsInt(x), answer);
        Check.due("ACTS behind " + call + ", the eleventh", x.count(2), 10);
        Check.due("undo() behind " + call + ", the eleventh", x.undo(), 9);
        holds("undo() behind " + call + ", the eleventh", x, before);
        Check.due("the next undo()", x.undo(), 8);
        Check.due("letters then", x.count(0), before.length() + (room ? 1 : -1));
    }

    static void holds(String call, WordRuns x, String word) {
        String read = Words.read(x);
        Check.holds("behind " + call + " the WORD is " + read + ", due is " + word, read.equals(word));
        Check.due("letters behind " + call, x.count(0), word.length());
    }

    // ---- the bounds of PLACES, PARTS and letters ----

    /** A PLACE: 0 to the last letter's; NONE for others. */
    static void placeBounds(PlaceCall call) {
        placeBounds("abcab", call);
        placeBounds("q", call);
        placeBounds(FULL, call);
        placeBounds("", call);
    }

    private static void placeBounds(String word, PlaceCall call) {
        int n = word.length();
        for (int place : new int[] {0, n / 2, n - 1}) {
            Check.holds("PLACE " + place + " of " + n + " is one",
                n == 0 || call.of(Words.of(word), place) != NONE);
        }
        for (int place : new int[] {-1, n, n + 1, NONE, REFUSED, 121, MIN, MAX}) {
            Check.due("PLACE " + place + " of " + n, call.of(Words.of(word), place), NONE);
        }
    }

    /** PART i, j: 0 <= i <= j <= how many letters; the answer without it; an empty one is one, or not. */
    static void partBounds(PartCall call, boolean emptyToo, int none) {
        partBounds("abcab", call, emptyToo, none);
        partBounds("q", call, emptyToo, none);
        partBounds(FULL, call, emptyToo, none);
        partBounds("", call, emptyToo, none);
    }

    private static void partBounds(String word, PartCall call, boolean emptyToo, int none) {
        int n = word.length();
        int[][] full = {{0, n}, {0, 1}, {n - 1, n}, {n / 2, n}};
        for (int[] part : full) {
            Check.holds(name(part) + " of " + n + " is a PART",
                n == 0 || call.of(Words.of(word), part[0], part[1]) != none);
        }
        int[][] empty = {{0, 0}, {n / 2, n / 2}, {n, n}};
        for (int[] part : empty) {
            boolean answered = call.of(Words.of(word), part[0], part[1]) != none;
            Check.holds(name(part) + " of " + n + " is a PART: " + emptyToo, answered == emptyToo);
        }
        int[][] others = {{-1, n}, {-1, 0}, {-1, -1}, {0, n + 1}, {n, n + 1}, {n + 1, n + 1}, {1, 0}, {n, n - 1},
            {0, -1}, {n + 1, n}, {MIN, MAX}, {0, MAX}, {MIN, 0}, {MAX, MAX}, {MIN, MIN}, {MAX, MIN}};
        for (int[] part : others) {
            Check.due(name(part) + " of " + n, call.of(Words.of(word), part[0], part[1]), none);
        }
    }

    private static String name(int[] part) {
        return "PART " + part[0] + ", " + part[1];
    }

    /** Letters: 0 to 25; NONE for others. */
    static void letterBounds(Supplier<WordRuns> made, PlaceCall call, boolean noneToo) {
        for (int letter : new int[] {0, 1, 24, 25}) {
            Check.holds("letter " + letter + " is one", call.of(made.get(), letter) != NONE);
        }
        for (int letter : new int[] {noneToo ? REFUSED : NONE, REFUSED, 26, 'a', 'z', 255, 256, MIN, MAX}) {
            Check.due("letter " + letter, call.of(made.get(), letter), NONE);
        }
    }

    /** What 0 to the last one; NONE for others. */
    static void whatBounds(int last, Supplier<WordRuns> made, PlaceCall call) {
        for (int what = 0; what <= last; what++) {
            Check.holds("what " + what + " is answered", call.of(made.get(), what) != NONE);
        }
        for (int what : new int[] {-1, -2, last + 1, last + 2, MIN, MAX}) {
            Check.due("what " + what, call.of(made.get(), what), NONE);
        }
    }

    /** A row of answers by k from 0 on, and what comes behind the last one. */
    static void row(PlaceCall call, WordRuns x, int[] due, int behind) {
        for (int k = 0; k < due.length; k++) {
            Check.due("k " + k, call.of(x, k), due[k]);
        }
        for (int k : new int[] {due.length, due.length + 1, 120, 121, MAX}) {
            Check.due("k " + k + " behind the last", call.of(x, k), behind);
        }
    }
}
