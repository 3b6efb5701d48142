import java.util.ArrayList;
import java.util.Collections;
import java.util.Comparator;
import java.util.List;
import java.util.Set;
import java.util.TreeSet;

/** The document's terms over a plain String, each as its words tell it and none of them fast. */
final class SlowWord {
    private static final int NONE = -1;
    private static final int TOO_FEW = -2;

    private final String w;
    private final int n;
    private List<int[]> runs;

    SlowWord(String w) {
        this.w = w;
        this.n = w.length();
    }

    // ---- helpers ----

    private boolean isPart(int i, int j) {
        return 0 <= i && i <= j && j <= n;
    }

    private boolean isPlace(int place) {
        return 0 <= place && place < n;
    }

    private static int kth(List<Integer> row, int k) {
        return k < NONE ? NONE : k == NONE ? row.size() : k < row.size() ? row.get(k) : TOO_FEW;
    }

    private static boolean hasPeriod(String s, int p) {
        for (int x = 0; x + p < s.length(); x++) {
            if (s.charAt(x) != s.charAt(x + p)) {
                return false;
            }
        }
        return true;
    }

    private static int leastPeriod(String s) {
        int p = 1;
        while (!hasPeriod(s, p)) {
            p++;
        }
        return p;
    }

    static String rootOf(String s) {
        for (int length = 1; length < s.length(); length++) {
            if (s.length() % length == 0 && s.substring(0, length).repeat(s.length() / length).equals(s)) {
                return s.substring(0, length);
            }
        }
        return s;
    }

    private static String ordered(String s, boolean up) {
        StringBuilder turned = new StringBuilder();
        for (char letter : s.toCharArray()) {
            turned.append(up ? letter : (char) ('z' - letter + 'a'));
        }
        return turned.toString();
    }

    static boolean isLyndon(String s, boolean up) {
        String t = ordered(s, up);
        for (int o = 1; o < t.length(); o++) {
            if (t.compareTo(t.substring(o) + t.substring(0, o)) >= 0) {
                return false;
            }
        }
        return !s.isEmpty();
    }

    private static List<Integer> liesAt(String s, String part) {
        List<Integer> places = new ArrayList<>();
        for (int o = 0; o + part.length() <= s.length(); o++) {
            if (s.startsWith(part, o)) {
                places.add(o);
            }
        }
        return places;
    }

    private static int covered(String s, String part, List<Integer> places) {
        boolean[] under = new boolean[s.length()];
        for (int o : places) {
            for (int x = Math.max(0, o); x < o + part.length() && x < s.length(); x++) {
                under[x] = true;
            }
        }
        int many = 0;
        for (boolean one : under) {
            many += one ? 1 : 0;
        }
        return many;
    }

    private static boolean isPalindrome(String s) {
        return new StringBuilder(s).reverse().toString().equals(s);
    }

    private Set<String> unlike(int length) {
        Set<String> words = new TreeSet<>();
        for (int i = 0; i + length <= n; i++) {
            words.add(w.substring(i, i + length));
        }
        return words;
    }

    /** Of some PARTS (begin, length): how many, the longest, where the first such begins. */
    private static int told(List<int[]> parts, int what) {
        int longest = 0;
        int first = TOO_FEW;
        for (int[] part : parts) {
            longest = Math.max(longest, part[1]);
        }
        for (int[] part : parts) {
            if (part[1] == longest && (first < 0 || part[0] < first)) {
                first = part[0];
            }
        }
        return what == 0 ? parts.size() : what == 1 ? longest : what == 2 ? first : NONE;
    }

    // ---- the questions ----

    int border(int i, int j, int k) {
        if (!isPart(i, j)) {
            return NONE;
        }
        String s = w.substring(i, j);
        List<Integer> row = new ArrayList<>();
        for (int length = s.length() - 1; length >= 1; length--) {
            if (s.endsWith(s.substring(0, length))) {
                row.add(length);
            }
        }
        return kth(row, k);
    }

    int period(int i, int j, int k) {
        if (!isPart(i, j)) {
            return NONE;
        }
        List<Integer> row = new ArrayList<>();
        for (int p = 1; p <= j - i; p++) {
            if (hasPeriod(w.substring(i, j), p)) {
                row.add(p);
            }
        }
        return kth(row, k);
    }

    int root(int i, int j, int what) {
        if (!isPart(i, j) || i == j || what < 0 || what > 2) {
            return NONE;
        }
        String s = w.substring(i, j);
        String root = rootOf(s);
        int best = 0;
        for (int o = 1; o < s.length(); o++) {
            if ((s.substring(o) + s.substring(0, o)).compareTo(s.substring(best) + s.substring(0, best)) < 0) {
                best = o;
            }
        }
        return what == 0 ? root.length() : what == 1 ? s.length() / root.length() : best;
    }

    /** Tries every way to cut the word, so for short words alone. */
    int lyndon(boolean up, int k) {
        List<List<Integer>> rows = new ArrayList<>();
        cut(up, 0, null, new ArrayList<>(), rows);
        if (rows.size() != 1) {
            throw new IllegalStateException(w + " has " + rows.size() + " rows of LYNDON words");
        }
        return kth(rows.get(0), k);
    }

    private void cut(boolean up, int from, String ahead, List<Integer> begins, List<List<Integer>> rows) {
        if (from == n) {
            rows.add(new ArrayList<>(begins));
        }
        for (int to = from + 1; to <= n; to++) {
            String part = w.substring(from, to);
            if (isLyndon(part, up) && (ahead == null || ordered(ahead, up).compareTo(ordered(part, up)) >= 0)) {
                begins.add(from);
                cut(up, to, part, begins, rows);
                begins.remove(begins.size() - 1);
            }
        }
    }

    int longest(boolean up, int place) {
        int longest = NONE;
        for (int j = place + 1; isPlace(place) && j <= n; j++) {
            longest = isLyndon(w.substring(place, j), up) ? j - place : longest;
        }
        return longest;
    }

    private List<int[]> allRuns() {
        if (runs == null) {
            runs = runsOf(w);
        }
        return runs;
    }

    private static List<int[]> runsOf(String w) {
        List<int[]> found = new ArrayList<>();
        for (int i = 0; i < w.length(); i++) {
            for (int j = i + 2; j <= w.length(); j++) {
                int p = leastPeriod(w.substring(i, j));
                boolean open = i > 0 && hasPeriod(w.substring(i - 1, j), p)
                    || j < w.length() && hasPeriod(w.substring(i, j + 1), p);
                if (j - i >= 2 * p && !open) {
                    found.add(new int[] {i, j, p});
                }
            }
        }
        found.sort(Comparator.<int[]>comparingInt(run -> run[0]).thenComparingInt(run -> run[2]));
        return found;
    }

    int run(int k, int what) {
        List<int[]> all = allRuns();
        if (k == NONE && what == 0) {
            return all.size();
        }
        if (k < 0 || k >= all.size() || what < 0 || what > 4) {
            return NONE;
        }
        int[] run = all.get(k);
        if (what < 3) {
            return run[what];
        }
        if (what == 4) {
            return 1000 * (run[1] - run[0]) / run[2];
        }
        int place = run[0];
        while (!isLyndon(w.substring(place, place + run[2]), true)) {
            place++;
        }
        return place;
    }

    int runs(int place) {
        int many = 0;
        for (int[] run : allRuns()) {
            many += run[0] <= place && place < run[1] ? 1 : 0;
        }
        return isPlace(place) ? many : NONE;
    }

    int exponents() {
        int sum = 0;
        for (int k = 0; k < allRuns().size(); k++) {
            sum += run(k, 4);
        }
        return sum;
    }

    int squares(int what) {
        List<int[]> all = new ArrayList<>();
        Set<String> words = new TreeSet<>();
        int rooted = 0;
        int cubes = 0;
        for (int i = 0; i < n; i++) {
            for (int j = i + 1; j <= n; j++) {
                String s = w.substring(i, j);
                int half = s.length() / 2;
                if (s.length() % 2 == 0 && s.substring(0, half).equals(s.substring(half))) {
                    all.add(new int[] {i, s.length()});
                    words.add(s);
                }
                cubes += s.length() % 3 == 0 && s.substring(0, s.length() / 3).repeat(3).equals(s) ? 1 : 0;
            }
        }
        for (String square : words) {
            String half = square.substring(square.length() / 2);
            rooted += rootOf(half).equals(half) ? 1 : 0;
        }
        switch (what) {
            case 0: return all.size();
            case 1: return words.size();
            case 2: return rooted;
            case 3: return cubes;
            case 4: return told(all, 1);
            case 5: return told(all, 2);
            default: return NONE;
        }
    }

    int power(int thousandths) {
        if (thousandths < 1001 || thousandths > 120000) {
            return NONE;
        }
        for (int j = 1; j <= n; j++) {
            for (int i = 0; i < j; i++) {
                if (1000L * (j - i) >= (long) thousandths * leastPeriod(w.substring(i, j))) {
                    return j;
                }
            }
        }
        return TOO_FEW;
    }

    int cover(int i, int j, int k) {
        if (!isPart(i, j) || i == j) {
            return NONE;
        }
        String s = w.substring(i, j);
        List<Integer> row = new ArrayList<>();
        for (int length = 1; length <= s.length(); length++) {
            String part = s.substring(0, length);
            if (covered(s, part, liesAt(s, part)) == s.length()) {
                row.add(length);
            }
        }
        return kth(row, k);
    }

    private boolean isSeed(String part) {
        List<Integer> places = new ArrayList<>();
        for (int o = 1 - part.length(); o < n; o++) {
            boolean lies = true;
            for (int x = 0; x < part.length(); x++) {
                lies &= !isPlace(o + x) || w.charAt(o + x) == part.charAt(x);
            }
            if (lies) {
                places.add(o);
            }
        }
        return covered(w, part, places) == n;
    }

    int seed(int k, int what) {
        List<int[]> all = new ArrayList<>();
        for (int length = 1; length <= n; length++) {
            for (int i = 0; i + length <= n; i++) {
                String part = w.substring(i, i + length);
                if (w.indexOf(part) == i && isSeed(part)) {
                    all.add(new int[] {length, i});
                }
            }
        }
        if (k == NONE && what == 0) {
            return all.size();
        }
        return k < 0 || k >= all.size() || what < 0 || what > 1 ? NONE : all.get(k)[what];
    }

    int cloak(int length, int what) {
        if (length < 1 || length > n || what < 0 || what > 1) {
            return NONE;
        }
        int most = 0;
        int begin = 0;
        for (int i = 0; i + length <= n; i++) {
            String part = w.substring(i, i + length);
            int places = covered(w, part, liesAt(w, part));
            if (places > most) {
                most = places;
                begin = i;
            }
        }
        return what == 0 ? most : begin;
    }

    int mirror(int place, boolean even) {
        if (!isPlace(place)) {
            return NONE;
        }
        int longest = 0;
        for (int half = 0; half <= n; half++) {
            int i = place - half;
            int j = even ? place + half : place + half + 1;
            if (isPart(i, j) && isPalindrome(w.substring(i, j))) {
                longest = j - i;
            }
        }
        return longest;
    }

    int mirrors(int what) {
        List<int[]> all = new ArrayList<>();
        Set<String> words = new TreeSet<>();
        int[] fewest = new int[n + 1];
        for (int j = 1; j <= n; j++) {
            fewest[j] = j;
            for (int i = 0; i < j; i++) {
                if (isPalindrome(w.substring(i, j))) {
                    all.add(new int[] {i, j - i});
                    words.add(w.substring(i, j));
                    fewest[j] = Math.min(fewest[j], fewest[i] + 1);
                }
            }
        }
        switch (what) {
            case 0: return all.size();
            case 1: return words.size();
            case 2: return fewest[n];
            case 3: return told(all, 1);
            case 4: return told(all, 2);
            default: return NONE;
        }
    }

    int factors(int length) {
        if (length != NONE) {
            return length < 1 ? NONE : unlike(length).size();
        }
        int many = 0;
        for (int each = 1; each <= n; each++) {
            many += unlike(each).size();
        }
        return many;
    }

    int bare(int what) {
        List<int[]> all = new ArrayList<>();
        for (int i = 0; i < n; i++) {
            for (int j = i + 1; j <= n; j++) {
                if (border(i, j, NONE) == 0) {
                    all.add(new int[] {i, j - i});
                }
            }
        }
        return what < 0 || what > 1 ? NONE : told(all, what + 1);
    }

    int twice(boolean apart, int what) {
        if (what < 0 || what > 2) {
            return NONE;
        }
        for (int length = n; length >= 1; length--) {
            for (int i = 0; i + length <= n; i++) {
                for (int place : liesAt(w, w.substring(i, i + length))) {
                    if (place > i && (!apart || place >= i + length)) {
                        return what == 0 ? length : what == 1 ? i : place;
                    }
                }
            }
        }
        return what == 0 ? 0 : TOO_FEW;
    }

    int phrase(int k, int what) {
        List<int[]> all = new ArrayList<>();
        int at = 0;
        while (at < n) {
            int length = 0;
            while (at + length < n && w.indexOf(w.substring(at, at + length + 1)) < at) {
                length++;
            }
            int source = length == 0 ? TOO_FEW : w.indexOf(w.substring(at, at + length));
            all.add(new int[] {at, Math.max(1, length), source});
            at += Math.max(1, length);
        }
        if (k == NONE && what == 0) {
            return all.size();
        }
        return k < 0 || k >= all.size() || what < 0 || what > 2 ? NONE : all.get(k)[what];
    }

    int ends(int k, int what) {
        List<String> all = new ArrayList<>();
        for (int i = 0; i < n; i++) {
            all.add(w.substring(i));
        }
        Collections.sort(all);
        if (k < 0 || k >= n || what < 0 || what > 1) {
            return NONE;
        }
        return what == 0 ? n - all.get(k).length() : k == 0 ? 0 : inCommon(all.get(k - 1), all.get(k));
    }

    private static int inCommon(String one, String other) {
        int same = 0;
        while (same < one.length() && same < other.length() && one.charAt(same) == other.charAt(same)) {
            same++;
        }
        return same;
    }

    int abel(int what) {
        List<int[]> all = new ArrayList<>();
        for (int i = 0; i < n; i++) {
            for (int half = 1; i + 2 * half <= n; half++) {
                char[] one = w.substring(i, i + half).toCharArray();
                char[] other = w.substring(i + half, i + 2 * half).toCharArray();
                java.util.Arrays.sort(one);
                java.util.Arrays.sort(other);
                if (java.util.Arrays.equals(one, other)) {
                    all.add(new int[] {i, 2 * half});
                }
            }
        }
        return told(all, what);
    }

    int often(int letter) {
        if (letter < NONE || letter > 25) {
            return NONE;
        }
        if (letter >= 0) {
            return (int) w.chars().filter(each -> each == 'a' + letter).count();
        }
        int longest = 0;
        for (int i = 0; i < n; i++) {
            for (int j = i + 1; j <= n; j++) {
                if (w.substring(i, j).chars().distinct().count() == j - i) {
                    longest = Math.max(longest, j - i);
                }
            }
        }
        return longest;
    }

    int lies(int i, int j, int k) {
        return isPart(i, j) && i < j ? kth(liesAt(w, w.substring(i, j)), k) : NONE;
    }

    int compare(int i, int j, int i2, int j2) {
        if (!isPart(i, j) || !isPart(i2, j2)) {
            return TOO_FEW;
        }
        return Integer.signum(w.substring(i, j).compareTo(w.substring(i2, j2)));
    }

    int closed(int what) {
        List<int[]> all = new ArrayList<>();
        for (int i = 0; i < n; i++) {
            for (int j = i + 1; j <= n; j++) {
                String s = w.substring(i, j);
                int border = border(i, j, 0);
                if (j - i == 1 || border > 0 && liesAt(s, s.substring(0, border)).size() == 2) {
                    all.add(new int[] {i, j - i});
                }
            }
        }
        return told(all, what);
    }

    int absent(int what) {
        Set<String> words = new TreeSet<>();
        for (int length = 1; length <= n; length++) {
            for (String start : unlike(length)) {
                for (char letter = 'a'; letter <= 'z'; letter++) {
                    String word = start + letter;
                    if (!w.contains(word) && w.contains(word.substring(1))) {
                        words.add(word);
                    }
                }
            }
        }
        int shortest = 0;
        int longest = 0;
        for (String word : words) {
            shortest = shortest == 0 ? word.length() : Math.min(shortest, word.length());
            longest = Math.max(longest, word.length());
        }
        return what == 0 ? words.size() : what == 1 ? shortest : what == 2 ? longest : NONE;
    }

    int special(int length) {
        if (length < 0) {
            return NONE;
        }
        int many = 0;
        for (String part : unlike(length)) {
            Set<Character> behind = new TreeSet<>();
            for (int place : liesAt(w, part)) {
                if (place + length < n) {
                    behind.add(w.charAt(place + length));
                }
            }
            many += behind.size() >= 2 ? 1 : 0;
        }
        return many;
    }

    int gapped(int gap, int what) {
        if (gap < 0 || gap > 119) {
            return NONE;
        }
        List<int[]> all = new ArrayList<>();
        for (int i = 0; i < n; i++) {
            for (int length = 1; i + 2 * length + gap <= n; length++) {
                if (w.startsWith(w.substring(i, i + length), i + length + gap)) {
                    all.add(new int[] {i, length});
                }
            }
        }
        return told(all, what);
    }

    int change(int place, int what) {
        if (!isPlace(place) || what < 0 || what > 1) {
            return NONE;
        }
        int most = NONE;
        int best = NONE;
        for (int letter = 0; letter < 26; letter++) {
            StringBuilder changed = new StringBuilder(w);
            changed.setCharAt(place, (char) ('a' + letter));
            int many = runsOf(changed.toString()).size();
            if (many > most) {
                most = many;
                best = letter;
            }
        }
        return what == 0 ? best : most;
    }

    int alike(int place, int other) {
        return isPlace(place) && isPlace(other) ? inCommon(w.substring(place), w.substring(other)) : NONE;
    }
}
