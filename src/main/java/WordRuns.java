/** A word of at most 120 small letters, told by a text, changed by acts, asked for its runs, covers, seeds and more. */
public final class WordRuns {
    public static final int NONE = -1;

    private static final int REFUSED = -2;
    private static final int MOST_LETTERS = 120;
    private static final int ALPHABET = 26;
    private static final int SHELVES = 2;
    private static final int THOUSAND = 1000;

    private final Word word = new Word();
    private final Word draft = new Word();
    private final Past past = new Past();
    private final Word[] shelves = new Word[SHELVES];
    private final Reader reader = new Reader();
    private final Twins twins = new Twins(word);
    private final Shapes shapes = new Shapes(word, twins);
    private final Repeats repeats = new Repeats(word, twins, shapes);
    private final Unlike unlike = new Unlike(word, twins);
    private final Orders orders = new Orders(word, twins);
    private final Mirrors mirrors = new Mirrors(word, twins);
    private final RunList runList = new RunList();
    private final RunList triedRuns = new RunList();
    private boolean runsFound = false;
    private int keptShelves = 0;

    public WordRuns() {
        for (int shelf = 0; shelf < SHELVES; shelf++) {
            shelves[shelf] = new Word();
        }
    }

    // ---- the TAPE and the TEXT on it ----

    public int feed(int a, int b, int c, int d, int e) {
        return reader.take(a, b, c, d, e);
    }

    public int end(int n) {
        return reader.cut(n);
    }

    public int tell() {
        int fault = reader.readInto(draft);
        if (fault != 0) {
            return REFUSED - fault;
        }
        replaceWord(draft);
        past.clear();
        return word.size();
    }

    // ---- ACTS ----

    public int put(int place, int letter) {
        if (!isPlace(place) || !isLetter(letter)) {
            return NONE;
        }
        int old = word.at(place);
        if (old == letter) {
            return REFUSED;
        }
        draft.copy(word);
        draft.set(place, letter);
        act();
        return old;
    }

    public int insert(int place, int letter) {
        if (place < 0 || place > word.size() || !isLetter(letter)) {
            return NONE;
        }
        if (word.size() >= MOST_LETTERS) {
            return REFUSED;
        }
        draft.clear();
        draft.appendPart(word, 0, place);
        draft.append(letter);
        draft.appendPart(word, place, word.size());
        return act();
    }

    public int drop(int place) {
        if (!isPlace(place)) {
            return NONE;
        }
        int old = word.at(place);
        draft.clear();
        draft.appendPart(word, 0, place);
        draft.appendPart(word, place + 1, word.size());
        act();
        return old;
    }

    public int turn(int i, int j) {
        if (!isPart(i, j)) {
            return NONE;
        }
        draft.clear();
        draft.appendPart(word, 0, i);
        for (int x = j - 1; x >= i; x--) {
            draft.append(word.at(x));
        }
        draft.appendPart(word, j, word.size());
        return actIfOther();
    }

    public int again(int i, int j) {
        if (!isFullPart(i, j)) {
            return NONE;
        }
        if (word.size() + (j - i) > MOST_LETTERS) {
            return REFUSED;
        }
        draft.copy(word);
        draft.appendPart(word, i, j);
        return act();
    }

    public int rotate(int k) {
        if (k < 0 || k > word.size()) {
            return NONE;
        }
        draft.clear();
        draft.appendPart(word, k, word.size());
        draft.appendPart(word, 0, k);
        return actIfOther();
    }

    public int only(int i, int j) {
        if (!isPart(i, j)) {
            return NONE;
        }
        if (j - i == word.size()) {
            return REFUSED;
        }
        draft.clear();
        draft.appendPart(word, i, j);
        return act();
    }

    public int sub(int letter, int i, int j) {
        if (!isLetter(letter) || !isPart(i, j)) {
            return NONE;
        }
        int times = word.timesOf(letter);
        if (times == 0 || word.size() + times * (j - i - 1) > MOST_LETTERS) {
            return REFUSED;
        }
        draft.clear();
        for (int x = 0; x < word.size(); x++) {
            if (word.at(x) == letter) {
                draft.appendPart(word, i, j);
            } else {
                draft.append(word.at(x));
            }
        }
        return act();
    }

    // ---- undone, kept ----

    public int undo() {
        if (!past.take(draft)) {
            return NONE;
        }
        replaceWord(draft);
        return past.size();
    }

    public int keep(int shelf) {
        if (shelf < 0 || shelf >= SHELVES) {
            return NONE;
        }
        shelves[shelf].copy(word);
        keptShelves |= 1 << shelf;
        return word.size();
    }

    public int back(int shelf) {
        if (shelf < 0 || shelf >= SHELVES) {
            return NONE;
        }
        if ((keptShelves & 1 << shelf) == 0) {
            return REFUSED;
        }
        replaceWord(shelves[shelf]);
        past.clear();
        return word.size();
    }

    // ---- one PLACE, one PART ----

    public int letter(int place) {
        return word.at(place);
    }

    public int border(int i, int j, int k) {
        return isPart(i, j) && k >= NONE ? shapes.borderSize(i, j, k) : NONE;
    }

    public int period(int i, int j, int k) {
        return isPart(i, j) && k >= NONE ? shapes.periodUpTo(i, j, j - i, k) : NONE;
    }

    public int root(int i, int j, int what) {
        if (!isFullPart(i, j)) {
            return NONE;
        }
        switch (what) {
            case 0:
                return shapes.rootSize(i, j);
            case 1:
                return (j - i) / Math.max(1, shapes.rootSize(i, j));
            case 2:
                return orders.leastRotation(i, j);
            default:
                return NONE;
        }
    }

    public int cover(int i, int j, int k) {
        return isFullPart(i, j) && k >= NONE ? shapes.coverSize(i, j, k) : NONE;
    }

    public int lies(int i, int j, int k) {
        return isFullPart(i, j) && k >= NONE ? shapes.placeOf(i, j, k) : NONE;
    }

    public int compare(int i, int j, int i2, int j2) {
        return isPart(i, j) && isPart(i2, j2) ? orders.lesserPart(i, j, i2, j2) : REFUSED;
    }

    public int alike(int place, int other) {
        return isPlace(place) && isPlace(other) ? twins.common(place, other) : NONE;
    }

    // ---- LYNDON words, ENDS ----

    public int lyndon(boolean up, int k) {
        return k >= NONE ? orders.factorBegin(up, k) : NONE;
    }

    public int longest(boolean up, int place) {
        return isPlace(place) ? orders.factorSize(up, place) : NONE;
    }

    public int ends(int k, int what) {
        if (k < 0 || k >= word.size()) {
            return NONE;
        }
        switch (what) {
            case 0:
                return orders.endAt(k);
            case 1:
                return k == 0 ? 0 : twins.common(orders.endAt(k - 1), orders.endAt(k));
            default:
                return NONE;
        }
    }

    // ---- RUNS ----

    public int run(int k, int what) {
        RunList found = foundRuns();
        if (k == NONE && what == 0) {
            return found.size();
        }
        if (k < 0 || k >= found.size()) {
            return NONE;
        }
        switch (what) {
            case 0:
                return found.from(k);
            case 1:
                return found.to(k);
            case 2:
                return found.gap(k);
            case 3:
                return found.from(k) + orders.leastRotation(found.from(k), found.from(k) + found.gap(k));
            case 4:
                return found.thousandths(k);
            default:
                return NONE;
        }
    }

    public int runs(int place) {
        return isPlace(place) ? foundRuns().over(place) : NONE;
    }

    public int change(int place, int what) {
        if (!isPlace(place) || what < 0 || what > 1) {
            return NONE;
        }
        int bestLetter = 0;
        int mostRuns = NONE;
        int elsewhere = word.lettersBut(place);
        boolean strangerTried = false;
        draft.copy(word);
        for (int letter = 0; letter < ALPHABET; letter++) {
            boolean stranger = (elsewhere >> letter & 1) == 0;
            // letters that are nowhere else all leave the same runs: the least one stands for them
            if (stranger && strangerTried) {
                continue;
            }
            strangerTried |= stranger;
            draft.set(place, letter);
            triedRuns.find(draft);
            if (triedRuns.size() > mostRuns) {
                mostRuns = triedRuns.size();
                bestLetter = letter;
            }
        }
        return what == 0 ? bestLetter : mostRuns;
    }

    // ---- SQUARES, powers and other repeats ----

    public int squares(int what) {
        return repeats.squareAnswer(what);
    }

    public int power(int thousandths) {
        if (thousandths <= THOUSAND || thousandths > MOST_LETTERS * THOUSAND) {
            return NONE;
        }
        return repeats.endOfPower(thousandths);
    }

    public int bare(int what) {
        return what == 0 || what == 1 ? repeats.withoutBorder().told(what + 1) : NONE;
    }

    public int twice(boolean apart, int what) {
        return repeats.twiceAnswer(apart, what);
    }

    public int closed(int what) {
        return repeats.closedParts().told(what);
    }

    public int gapped(int gap, int what) {
        return gap >= 0 && gap < MOST_LETTERS ? repeats.withGap(gap).told(what) : NONE;
    }

    public int abel(int what) {
        return repeats.abelianSquares().told(what);
    }

    public int phrase(int k, int what) {
        if (k == NONE && what == 0) {
            return repeats.phraseBegin(NONE);
        }
        int begin = k < 0 ? REFUSED : repeats.phraseBegin(k);
        if (begin < 0) {
            return NONE;
        }
        switch (what) {
            case 0:
                return begin;
            case 1:
                return Math.max(1, twins.earlier(begin));
            case 2:
                return repeats.phraseSource(begin);
            default:
                return NONE;
        }
    }

    // ---- SEEDS, unlike factors ----

    public int seed(int k, int what) {
        unlike.countSeeds();
        if (k == NONE && what == 0) {
            return unlike.seeds();
        }
        if (k < 0 || what < 0 || what > 1) {
            return NONE;
        }
        return unlike.seedAnswer(k, what);
    }

    public int cloak(int length, int what) {
        if (length < 1 || length > word.size() || what < 0 || what > 1) {
            return NONE;
        }
        return unlike.cloakAnswer(length, what);
    }

    public int factors(int length) {
        if (length == NONE) {
            return unlike.allFactors();
        }
        return length >= 1 ? unlike.factorsOf(length) : NONE;
    }

    public int special(int length) {
        return length >= 0 ? unlike.specialOf(length) : NONE;
    }

    public int absent(int what) {
        return what >= 0 && what <= 2 ? unlike.absentAnswer(what) : NONE;
    }

    // ---- palindromes ----

    public int mirror(int place, boolean even) {
        return isPlace(place) ? mirrors.longestAt(place, even) : NONE;
    }

    public int mirrors(int what) {
        switch (what) {
            case 0:
                return mirrors.all();
            case 1:
                return mirrors.unlikeOnes();
            case 2:
                return mirrors.fewest();
            case 3:
                return mirrors.longestOnes().told(1);
            case 4:
                return mirrors.longestOnes().told(2);
            default:
                return NONE;
        }
    }

    // ---- counts ----

    public int often(int letter) {
        if (letter == NONE) {
            return word.longestUnlike();
        }
        return isLetter(letter) ? word.timesOf(letter) : NONE;
    }

    public int count(int what) {
        switch (what) {
            case 0:
                return word.size();
            case 1:
                return Integer.bitCount(word.lettersBut(NONE));
            case 2:
                return past.size();
            case 3:
                return reader.size();
            case 4:
                return keptShelves;
            case 5:
                return foundRuns().allThousandths();
            default:
                return NONE;
        }
    }

    // ---- what the calls above share ----

    private boolean isPlace(int place) {
        return place >= 0 && place < word.size();
    }

    private boolean isLetter(int letter) {
        return letter >= 0 && letter < ALPHABET;
    }

    private boolean isPart(int i, int j) {
        return i >= 0 && i <= j && j <= word.size();
    }

    private boolean isFullPart(int i, int j) {
        return i < j && isPart(i, j);
    }

    private int act() {
        past.add(word);
        replaceWord(draft);
        return word.size();
    }

    private int actIfOther() {
        int other = word.unlikePlaces(draft);
        if (other == 0) {
            return REFUSED;
        }
        act();
        return other;
    }

    private void replaceWord(Word by) {
        word.copy(by);
        runsFound = false;
        twins.forget();
        orders.forget();
        unlike.forget();
    }

    private RunList foundRuns() {
        if (!runsFound) {
            runList.find(word);
            runList.sort();
            runsFound = true;
        }
        return runList;
    }

    /** Letters in a row that is never longer than 120. */
    private static final class Word {
        private final byte[] letters = new byte[MOST_LETTERS];
        private int size = 0;

        int size() {
            return size;
        }

        int at(int place) {
            return place >= 0 && place < size ? letters[place] : NONE;
        }

        void clear() {
            size = 0;
        }

        void set(int place, int letter) {
            if (place >= 0 && place < size) {
                letters[place] = (byte) letter;
            }
        }

        void append(int letter) {
            if (size < MOST_LETTERS) {
                letters[size] = (byte) letter;
                size++;
            }
        }

        void appendPart(Word other, int i, int j) {
            for (int x = i; x < j; x++) {
                append(other.at(x));
            }
        }

        void copy(Word other) {
            clear();
            appendPart(other, 0, other.size());
        }

        int unlikePlaces(Word other) {
            int unlike = 0;
            for (int x = 0; x < size; x++) {
                if (at(x) != other.at(x)) {
                    unlike++;
                }
            }
            return unlike;
        }

        int timesOf(int letter) {
            int times = 0;
            for (int x = 0; x < size; x++) {
                if (at(x) == letter) {
                    times++;
                }
            }
            return times;
        }

        /** As bits, the letters at all places but this one (NONE leaves none out). */
        int lettersBut(int place) {
            int bits = 0;
            for (int x = 0; x < size; x++) {
                if (x != place) {
                    bits |= 1 << at(x);
                }
            }
            return bits;
        }

        int longestUnlike() {
            int longest = 0;
            for (int i = 0; i < size; i++) {
                int bits = 0;
                int j = i;
                while (j < size && (bits >> at(j) & 1) == 0) {
                    bits |= 1 << at(j);
                    j++;
                }
                longest = Math.max(longest, j - i);
            }
            return longest;
        }
    }

    /** The words that the last ACTS replaced, in a ring: an eleventh pushes out the oldest. */
    private static final class Past {
        private static final int MOST = 10;

        private final Word[] words = new Word[MOST];
        private int place = 0;
        private int size = 0;

        Past() {
            for (int x = 0; x < MOST; x++) {
                words[x] = new Word();
            }
        }

        int size() {
            return size;
        }

        void clear() {
            size = 0;
        }

        void add(Word word) {
            words[place].copy(word);
            place = place + 1 < MOST ? place + 1 : 0;
            size = Math.min(size + 1, MOST);
        }

        boolean take(Word into) {
            if (size == 0) {
                return false;
            }
            place = place > 0 ? place - 1 : MOST - 1;
            size--;
            into.copy(words[place]);
            return true;
        }
    }

    /** The TAPE, and how the TEXT on it is read: a fault is kept as soon as it is met, and reading stops there. */
    private static final class Reader {
        private static final int MOST_BYTES = 300;
        private static final int MOST_NAMES = 4;
        private static final int MOST_OPEN = 6;
        private static final int MOST_TIMES = 60;
        private static final int MOST_FIB = 20;
        private static final int MOST_MORSE = 8;
        private static final int MOST_NAME_LETTERS = 3;

        private static final int CANNOT_STAND = 1;
        private static final int NUMBER_WRONG = 2;
        private static final int TOO_MANY = 3;
        private static final int TOO_DEEP = 4;

        private static final int BLANK = 32;
        private static final int QUOTE = 39;
        private static final int BEFORE_A = 'a' - 1;
        private static final int LET = (('l' - BEFORE_A) * 27 + 'e' - BEFORE_A) * 27 + 't' - BEFORE_A;
        private static final int REV = (('r' - BEFORE_A) * 27 + 'e' - BEFORE_A) * 27 + 'v' - BEFORE_A;
        private static final int FIB = (('f' - BEFORE_A) * 27 + 'i' - BEFORE_A) * 27 + 'b' - BEFORE_A;
        private static final int MORSE = (((('m' - BEFORE_A) * 27 + 'o' - BEFORE_A) * 27 + 'r' - BEFORE_A) * 27
            + 's' - BEFORE_A) * 27 + 'e' - BEFORE_A;
        private static final int LONGEST_CODE = 5;

        private final byte[] tape = new byte[MOST_BYTES];
        private int tapeSize = 0;
        // all open rows stand here one behind the other: seven rows, none of more than 120 letters
        private final byte[] pile = new byte[(MOST_OPEN + 1) * MOST_LETTERS];
        private int top = 0;
        private final byte[] told = new byte[MOST_NAMES * MOST_LETTERS];
        private final int[] toldSize = new int[MOST_NAMES];
        private final int[] toldName = new int[MOST_NAMES];
        private int names = 0;
        private int at = 0;
        private int fault = 0;

        int size() {
            return tapeSize;
        }

        int take(int a, int b, int c, int d, int e) {
            if (tapeSize + 20 > MOST_BYTES) {
                return NONE;
            }
            takeFour(a);
            takeFour(b);
            takeFour(c);
            takeFour(d);
            takeFour(e);
            return tapeSize;
        }

        private void takeFour(int number) {
            for (int shift = 24; shift >= 0; shift -= 8) {
                if (tapeSize < MOST_BYTES) {
                    tape[tapeSize] = (byte) (number >> shift);
                    tapeSize++;
                }
            }
        }

        int cut(int n) {
            if (n < 0 || n > tapeSize) {
                return NONE;
            }
            tapeSize = n;
            return n;
        }

        /** Empties the TAPE; answers its FAULT, or 0 and then the word holds what the TEXT tells. */
        int readInto(Word word) {
            at = 0;
            top = 0;
            names = 0;
            fault = 0;
            for (int many = 0; many <= MOST_BYTES && fault == 0 && passLet(); many++) {
                readName();
            }
            if (fault == 0 && readRow(0) && at < tapeSize) {
                fail(at, CANNOT_STAND);
            }
            tapeSize = 0;
            if (fault == 0) {
                word.clear();
                for (int x = 0; x < top; x++) {
                    word.append(pileAt(x));
                }
            }
            return fault;
        }

        private boolean passLet() {
            skipBlanks();
            int behind = wordEnd(at);
            boolean let = codeOf(at, behind) == LET;
            at = let ? behind : at;
            return let;
        }

        private void readName() {
            skipBlanks();
            int first = at;
            int behind = wordEnd(first);
            int code = codeOf(first, behind);
            int slot = slotOf(code);
            if (!isName(code, behind - first)) {
                fail(first, CANNOT_STAND);
            } else if (slot >= MOST_NAMES) {
                fail(first, TOO_MANY);
            } else {
                at = behind;
                if (expect('=') && readRow(0) && expect(';')) {
                    store(slot, code);
                }
            }
        }

        private boolean isName(int code, int letters) {
            return letters >= 1 && letters <= MOST_NAME_LETTERS && code != LET && code != REV && code != FIB;
        }

        private int slotOf(int code) {
            for (int slot = 0; slot < names && slot < MOST_NAMES; slot++) {
                if (toldName[slot] == code) {
                    return slot;
                }
            }
            return names;
        }

        private void store(int slot, int code) {
            if (slot < 0 || slot >= MOST_NAMES) {
                return;
            }
            toldName[slot] = code;
            toldSize[slot] = Math.min(top, MOST_LETTERS);
            for (int x = 0; x < toldSize[slot]; x++) {
                told[slot * MOST_LETTERS + x] = (byte) pileAt(x);
            }
            names = Math.max(names, slot + 1);
            top = 0;
        }

        private boolean readRow(int open) {
            int limit = top + MOST_LETTERS;
            for (int items = 0; items <= MOST_BYTES; items++) {
                skipBlanks();
                if (items > 0 && !isItemBegin(byteAt(at))) {
                    return true;
                }
                if (!readItem(open, limit)) {
                    return false;
                }
            }
            return true;
        }

        private boolean isItemBegin(int sign) {
            return sign == QUOTE || isDigit(sign) || isSmall(sign);
        }

        private boolean readItem(int open, int limit) {
            int sign = byteAt(at);
            if (sign == QUOTE) {
                return readLetters(limit);
            }
            if (isDigit(sign)) {
                return readTimes(open, limit);
            }
            if (isSmall(sign)) {
                return readWord(open, limit);
            }
            return fail(at, CANNOT_STAND);
        }

        private boolean readLetters(int limit) {
            int first = at;
            int behind = wordEnd(first + 1);
            if (behind == first + 1 || byteAt(behind) != QUOTE) {
                return fail(behind, CANNOT_STAND);
            }
            at = behind + 1;
            if (top + (behind - first - 1) > limit) {
                return fail(first, TOO_MANY);
            }
            for (int x = first + 1; x < behind; x++) {
                push(byteAt(x) - 'a');
            }
            return true;
        }

        private boolean readTimes(int open, int limit) {
            int first = at;
            int begin = top;
            int times = readNumber(MOST_TIMES);
            if (times < 0 || !readInside(open)) {
                return false;
            }
            int size = top - begin;
            if (begin + times * size > limit) {
                return fail(first, TOO_MANY);
            }
            top = times == 0 ? begin : top;
            for (int x = begin + size; x < begin + times * size; x++) {
                push(pileAt(x - size));
            }
            return true;
        }

        private boolean readWord(int open, int limit) {
            int first = at;
            int behind = wordEnd(first);
            int code = codeOf(first, behind);
            if (code == REV) {
                at = behind;
                return readReversed(first, open, limit);
            }
            if (code == FIB || code == MORSE) {
                at = behind;
                return readGrown(first, code == FIB, limit);
            }
            int slot = code == 0 ? names : slotOf(code);
            if (slot >= names || slot >= MOST_NAMES) {
                return fail(first, CANNOT_STAND);
            }
            at = behind;
            if (top + toldSize[slot] > limit) {
                return fail(first, TOO_MANY);
            }
            for (int x = 0; x < toldSize[slot] && x < MOST_LETTERS; x++) {
                push(told[slot * MOST_LETTERS + x]);
            }
            return true;
        }

        private boolean readReversed(int first, int open, int limit) {
            int begin = top;
            if (!readInside(open)) {
                return false;
            }
            if (top > limit) {
                return fail(first, TOO_MANY);
            }
            int low = begin;
            int high = top - 1;
            while (low < high && low >= 0 && high < pile.length) {
                byte kept = pile[low];
                pile[low] = pile[high];
                pile[high] = kept;
                low++;
                high--;
            }
            return true;
        }

        private boolean readGrown(int first, boolean fib, int limit) {
            skipBlanks();
            if (!isDigit(byteAt(at))) {
                return fail(at, CANNOT_STAND);
            }
            int steps = readNumber(fib ? MOST_FIB : MOST_MORSE);
            if (steps < 0) {
                return false;
            }
            if (top + (fib ? fibSize(steps) : 1 << steps) > limit) {
                return fail(first, TOO_MANY);
            }
            if (fib) {
                growFib(steps);
            } else {
                growMorse(steps);
            }
            return true;
        }

        private int fibSize(int steps) {
            int before = 1;
            int size = 1;
            for (int step = 2; step <= steps; step++) {
                int grown = size + before;
                before = size;
                size = grown;
            }
            return size;
        }

        private void growFib(int steps) {
            int begin = top;
            push(steps == 0 ? 1 : 0);
            if (steps >= 2) {
                push(1);
            }
            // from fib 3 on what comes behind is a beginning of what stands
            for (int step = 3; step <= steps; step++) {
                int added = fibSize(step - 2);
                for (int x = 0; x < added; x++) {
                    push(pileAt(begin + x));
                }
            }
        }

        private void growMorse(int steps) {
            int begin = top;
            push(0);
            for (int step = 1; step <= steps; step++) {
                int size = 1 << (step - 1);
                for (int x = 0; x < size; x++) {
                    push(1 - pileAt(begin + x));
                }
            }
        }

        private boolean readInside(int open) {
            skipBlanks();
            if (byteAt(at) != '(') {
                return fail(at, CANNOT_STAND);
            }
            if (open >= MOST_OPEN) {
                return fail(at, TOO_DEEP);
            }
            at++;
            return readRow(open + 1) && expect(')');
        }

        private boolean expect(int sign) {
            skipBlanks();
            if (byteAt(at) != sign) {
                return fail(at, CANNOT_STAND);
            }
            at++;
            return true;
        }

        private int readNumber(int most) {
            int first = at;
            int number = 0;
            while (at < tapeSize && isDigit(byteAt(at))) {
                // no need to tell large ones apart, and none may wrap around
                number = Math.min(number * 10 + (byteAt(at) - '0'), THOUSAND);
                at++;
            }
            if (number > most) {
                fail(first, NUMBER_WRONG);
                return NONE;
            }
            return number;
        }

        private boolean fail(int place, int kind) {
            fault = 8 * place + kind;
            return false;
        }

        private int byteAt(int place) {
            return place >= 0 && place < tapeSize && place < MOST_BYTES ? tape[place] & 255 : NONE;
        }

        private void skipBlanks() {
            while (at < tapeSize && byteAt(at) == BLANK) {
                at++;
            }
        }

        private int wordEnd(int first) {
            int behind = first;
            while (behind < tapeSize && isSmall(byteAt(behind))) {
                behind++;
            }
            return behind;
        }

        /** A number for a WORD of at most 5 letters, unlike for unlike WORDS; 0 for all others. */
        private int codeOf(int first, int behind) {
            if (behind - first > LONGEST_CODE) {
                return 0;
            }
            int code = 0;
            for (int x = first; x < behind; x++) {
                code = code * 27 + byteAt(x) - BEFORE_A;
            }
            return code;
        }

        private boolean isDigit(int sign) {
            return sign >= '0' && sign <= '9';
        }

        private boolean isSmall(int sign) {
            return sign >= 'a' && sign <= 'z';
        }

        private int pileAt(int place) {
            return place >= 0 && place < pile.length ? pile[place] : 0;
        }

        private void push(int letter) {
            if (top >= 0 && top < pile.length) {
                pile[top] = (byte) letter;
                top++;
            }
        }
    }

    /** For each two places how many letters from there on are alike; made when it is first asked after a change. */
    private static final class Twins {
        private final Word word;
        // only low <= high is kept, row by row of the higher place, to halve the room
        private final byte[] rows = new byte[(MOST_LETTERS + 1) * (MOST_LETTERS + 2) / 2];
        private final byte[] before = new byte[MOST_LETTERS + 1];
        private boolean ready = false;

        Twins(Word word) {
            this.word = word;
        }

        void forget() {
            ready = false;
        }

        int common(int place, int other) {
            int low = Math.min(place, other);
            int high = Math.max(place, other);
            if (low < 0 || high >= word.size()) {
                return 0;
            }
            if (!ready) {
                build();
            }
            return rows[(high * (high + 1) >> 1) + low];
        }

        /** The length of the longest PART from a place on that LIES at an earlier place, too. */
        int earlier(int place) {
            if (place < 0 || place >= word.size()) {
                return 0;
            }
            if (!ready) {
                build();
            }
            return before[place];
        }

        private void build() {
            ready = true;
            byte[] letters = word.letters;
            int size = Math.min(word.size, MOST_LETTERS);
            for (int high = size - 1; high >= 0; high--) {
                int row = high * (high + 1) >> 1;
                int rowBehind = row + high + 1;
                boolean last = high == size - 1;
                int most = 0;
                for (int low = 0; low <= high; low++) {
                    int same = 0;
                    if (letters[low] == letters[high]) {
                        same = last ? 1 : rows[rowBehind + low + 1] + 1;
                    }
                    rows[row + low] = (byte) same;
                    if (low < high && same > most) {
                        most = same;
                    }
                }
                before[high] = (byte) most;
            }
        }
    }

    /** PARTS that are asked for and counted: how many, how long the longest is, where the first such begins. */
    private static final class Tally {
        private int many = 0;
        private int longest = 0;
        private int first = REFUSED;

        void clear() {
            many = 0;
            longest = 0;
            first = REFUSED;
        }

        void add(int begin, int length) {
            many++;
            // those of one length are added in the order in which they begin, so the first one stays
            if (length > longest) {
                longest = length;
                first = begin;
            }
        }

        int told(int what) {
            switch (what) {
                case 0:
                    return many;
                case 1:
                    return longest;
                case 2:
                    return first;
                default:
                    return NONE;
            }
        }
    }

    /** Borders, periods, roots and covers of one PART. */
    private static final class Shapes {
        private final Word word;
        private final Twins twins;

        Shapes(Word word, Twins twins) {
            this.word = word;
            this.twins = twins;
        }

        private boolean isPeriod(int i, int j, int p) {
            return p >= j - i || twins.common(i, i + p) >= j - i - p;
        }

        /** The k-th PERIOD that is not above last; k NONE: how many. */
        int periodUpTo(int i, int j, int last, int k) {
            int many = 0;
            for (int p = 1; p <= last; p++) {
                if (isPeriod(i, j, p)) {
                    if (many == k) {
                        return p;
                    }
                    many++;
                }
            }
            return k == NONE ? many : REFUSED;
        }

        int borderSize(int i, int j, int k) {
            int p = periodUpTo(i, j, j - i - 1, k);
            return k == NONE || p == REFUSED ? p : j - i - p;
        }

        int rootSize(int i, int j) {
            int length = j - i;
            for (int p = 1; p < length; p++) {
                if (length % p == 0 && isPeriod(i, j, p)) {
                    return p;
                }
            }
            return length;
        }

        int coverSize(int i, int j, int k) {
            int many = 0;
            for (int length = 1; length <= j - i; length++) {
                if (isPeriod(i, j, j - i - length) && isCover(i, j, length)) {
                    if (many == k) {
                        return length;
                    }
                    many++;
                }
            }
            return k == NONE ? many : REFUSED;
        }

        private boolean isCover(int i, int j, int length) {
            int reached = i;
            for (int o = i; o <= j - length && o <= reached; o++) {
                if (twins.common(i, o) >= length) {
                    reached = o + length;
                }
            }
            return reached == j;
        }

        int placeOf(int i, int j, int k) {
            int many = 0;
            for (int o = 0; o <= word.size() - (j - i); o++) {
                if (twins.common(i, o) >= j - i) {
                    if (many == k) {
                        return o;
                    }
                    many++;
                }
            }
            return k == NONE ? many : REFUSED;
        }
    }

    /** Squares, powers and what else comes again. */
    private static final class Repeats {
        private final Word word;
        private final Twins twins;
        private final Shapes shapes;
        private final Tally tally = new Tally();
        private final int[] surplus = new int[ALPHABET];

        Repeats(Word word, Twins twins, Shapes shapes) {
            this.word = word;
            this.twins = twins;
            this.shapes = shapes;
        }

        int squareAnswer(int what) {
            int unlike = 0;
            int rooted = 0;
            int cubes = 0;
            tally.clear();
            for (int half = 1; 2 * half <= word.size(); half++) {
                for (int i = 0; i + 2 * half <= word.size(); i++) {
                    int same = twins.common(i, i + half);
                    if (same < half) {
                        continue;
                    }
                    tally.add(i, 2 * half);
                    cubes += same >= 2 * half ? 1 : 0;
                    // a word that is a SQUARE counts once among the unlike ones: where it first begins
                    if (2 * half > twins.earlier(i)) {
                        unlike++;
                        rooted += shapes.rootSize(i, i + half) == half ? 1 : 0;
                    }
                }
            }
            switch (what) {
                case 0:
                    return tally.told(0);
                case 1:
                    return unlike;
                case 2:
                    return rooted;
                case 3:
                    return cubes;
                case 4:
                    return tally.told(1);
                case 5:
                    return tally.told(2);
                default:
                    return NONE;
            }
        }

        int endOfPower(int thousandths) {
            int least = word.size() + 1;
            for (int p = 1; p < word.size(); p++) {
                int same = 0;
                for (int x = p; x < least - 1 && x < word.size(); x++) {
                    same = word.at(x) == word.at(x - p) ? same + 1 : 0;
                    if ((same + p) * THOUSAND >= thousandths * p) {
                        least = x + 1;
                    }
                }
            }
            return least <= word.size() ? least : REFUSED;
        }

        Tally withoutBorder() {
            tally.clear();
            for (int i = 0; i < word.size(); i++) {
                // the end of the longest PART from i that has a border whose second place is ahead of j
                int reach = i;
                for (int j = i + 1; j <= word.size(); j++) {
                    int x = j - 1;
                    reach = x > i ? Math.max(reach, x + twins.common(i, x)) : reach;
                    if (reach < j) {
                        tally.add(i, j - i);
                    }
                }
            }
            return tally;
        }

        int twiceAnswer(boolean apart, int what) {
            int longest = 0;
            int first = REFUSED;
            int next = REFUSED;
            for (int i = 0; i < word.size(); i++) {
                for (int j = i + 1; j < word.size(); j++) {
                    int same = twins.common(i, j);
                    same = apart ? Math.min(same, j - i) : same;
                    if (same > longest) {
                        longest = same;
                        first = i;
                        next = j;
                    }
                }
            }
            switch (what) {
                case 0:
                    return longest;
                case 1:
                    return first;
                case 2:
                    return next;
                default:
                    return NONE;
            }
        }

        Tally closedParts() {
            tally.clear();
            for (int i = 0; i < word.size(); i++) {
                tally.add(i, 1);
                addClosed(i);
            }
            return tally;
        }

        /** The longest border of a PART i, j begins at the least x from which on the letters of i go on to j. */
        private void addClosed(int i) {
            int x = i + 1;
            int between = 0;
            for (int j = i + 2; j <= word.size(); j++) {
                while (x < j && x + twins.common(i, x) < j) {
                    between = Math.max(between, twins.common(i, x));
                    x++;
                }
                if (x < j && between < j - x) {
                    tally.add(i, j - i);
                }
            }
        }

        Tally withGap(int gap) {
            tally.clear();
            for (int i = 0; i < word.size(); i++) {
                for (int length = 1; i + 2 * length + gap <= word.size(); length++) {
                    if (twins.common(i, i + length + gap) >= length) {
                        tally.add(i, length);
                    }
                }
            }
            return tally;
        }

        Tally abelianSquares() {
            tally.clear();
            for (int middle = 1; middle < word.size(); middle++) {
                addAbelian(middle);
            }
            return tally;
        }

        private void addAbelian(int middle) {
            for (int letter = 0; letter < ALPHABET; letter++) {
                surplus[letter] = 0;
            }
            int uneven = 0;
            int most = Math.min(middle, word.size() - middle);
            for (int half = 1; half <= most; half++) {
                uneven += changeSurplus(word.at(middle - half), 1);
                uneven += changeSurplus(word.at(middle + half - 1), -1);
                if (uneven == 0) {
                    tally.add(middle - half, 2 * half);
                }
            }
        }

        /** Answers by how many the letters that one half has more of than the other one grow. */
        private int changeSurplus(int letter, int by) {
            if (letter < 0 || letter >= ALPHABET) {
                return 0;
            }
            int old = surplus[letter];
            surplus[letter] = old + by;
            return old == 0 ? 1 : old + by == 0 ? -1 : 0;
        }

        /** Where the k-th PHRASE begins; k NONE: how many. */
        int phraseBegin(int k) {
            int many = 0;
            for (int begin = 0; begin < word.size(); begin += Math.max(1, twins.earlier(begin))) {
                if (many == k) {
                    return begin;
                }
                many++;
            }
            return k == NONE ? many : REFUSED;
        }

        int phraseSource(int begin) {
            int length = twins.earlier(begin);
            for (int x = 0; length > 0 && x < begin; x++) {
                if (twins.common(x, begin) >= length) {
                    return x;
                }
            }
            return REFUSED;
        }
    }

    /** Questions about unlike factors, each looked at only where it first begins. */
    private static final class Unlike {
        private final Word word;
        private final Twins twins;
        private final int[] seedsOfLength = new int[MOST_LETTERS + 1];
        private int allSeeds = 0;
        private boolean seedsCounted = false;
        private final int[] rightOf = new int[ALPHABET];
        private final int[] seenFrom = new int[MOST_LETTERS + 1];
        private int absent = 0;
        private int shortestAbsent = 0;
        private int longestAbsent = 0;

        Unlike(Word word, Twins twins) {
            this.word = word;
            this.twins = twins;
        }

        void forget() {
            seedsCounted = false;
        }

        private boolean isFirst(int i, int length) {
            return length == 0 ? i == 0 : length > twins.earlier(i);
        }

        int factorsOf(int length) {
            int many = 0;
            for (int i = 0; i <= word.size() - length; i++) {
                many += isFirst(i, length) ? 1 : 0;
            }
            return many;
        }

        int allFactors() {
            int many = 0;
            for (int i = 0; i < word.size(); i++) {
                many += word.size() - i - twins.earlier(i);
            }
            return many;
        }

        int specialOf(int length) {
            int many = 0;
            for (int i = 0; i < word.size() - length; i++) {
                many += isFirst(i, length) && Integer.bitCount(lettersBehind(i, length)) >= 2 ? 1 : 0;
            }
            return many;
        }

        private int lettersBehind(int i, int length) {
            int bits = 0;
            for (int x = i; x < word.size() - length; x++) {
                if (twins.common(i, x) >= length) {
                    bits |= 1 << word.at(x + length);
                }
            }
            return bits;
        }

        int cloakAnswer(int length, int what) {
            int most = 0;
            int begin = 0;
            for (int i = 0; i <= word.size() - length; i++) {
                int places = isFirst(i, length) ? placesUnder(i, length) : 0;
                if (places > most) {
                    most = places;
                    begin = i;
                }
            }
            return what == 0 ? most : begin;
        }

        private int placesUnder(int i, int length) {
            int places = 0;
            int reached = 0;
            for (int x = i; x <= word.size() - length; x++) {
                if (twins.common(i, x) >= length) {
                    places += x + length - Math.max(x, reached);
                    reached = x + length;
                }
            }
            return places;
        }

        int seeds() {
            return allSeeds;
        }

        void countSeeds() {
            if (seedsCounted) {
                return;
            }
            seedsCounted = true;
            for (int length = 0; length <= MOST_LETTERS; length++) {
                seedsOfLength[length] = 0;
            }
            for (int i = 0; i < word.size(); i++) {
                countSeedsFrom(i);
            }
            allSeeds = 0;
            for (int length = 1; length <= word.size() && length <= MOST_LETTERS; length++) {
                allSeeds += seedsOfLength[length];
            }
        }

        /** As the length rises, so does the least that sticks out in coversAhead(): it is not looked for anew. */
        private void countSeedsFrom(int i) {
            int out = 1;
            int most = Math.min(word.size() - i, MOST_LETTERS);
            for (int length = Math.max(i, twins.earlier(i)) + 1; length <= most; length++) {
                while (out <= length - i && twins.common(0, i + out) < length - out) {
                    out++;
                }
                if ((i == 0 || out <= length - i) && coversBehind(i, length)) {
                    seedsOfLength[length]++;
                }
            }
        }

        /** Of the k-th of those that countSeeds() counted. */
        int seedAnswer(int k, int what) {
            int left = k;
            for (int length = 1; length <= word.size() && length <= MOST_LETTERS; length++) {
                if (left < seedsOfLength[length]) {
                    return what == 0 ? length : seedBegin(length, left);
                }
                left -= seedsOfLength[length];
            }
            return NONE;
        }

        private int seedBegin(int length, int k) {
            int left = k;
            for (int i = 0; i <= word.size() - length; i++) {
                if (isSeed(i, length)) {
                    if (left == 0) {
                        return i;
                    }
                    left--;
                }
            }
            return NONE;
        }

        private boolean isSeed(int i, int length) {
            return isFirst(i, length) && coversAhead(i, length) && coversBehind(i, length);
        }

        /** The word first begins at i: what is ahead of i only one that sticks out there can cover. */
        private boolean coversAhead(int i, int length) {
            if (i == 0) {
                return true;
            }
            for (int out = 1; out <= length - i; out++) {
                if (twins.common(0, i + out) >= length - out) {
                    return true;
                }
            }
            return false;
        }

        /** From i on it always goes to the last place that leaves no gap. */
        private boolean coversBehind(int i, int length) {
            int x = i;
            for (int steps = 0; steps <= word.size() && x + length < word.size(); steps++) {
                int next = x + length;
                while (next > x && twins.common(i, next) < Math.min(length, word.size() - next)) {
                    next--;
                }
                if (next == x) {
                    return false;
                }
                x = next;
            }
            return true;
        }

        int absentAnswer(int what) {
            absent = 0;
            shortestAbsent = 0;
            longestAbsent = 0;
            addAbsentAround(0, 0);
            for (int x = 0; x <= MOST_LETTERS; x++) {
                seenFrom[x] = NONE;
            }
            for (int i = 0; i < word.size(); i++) {
                addAbsentFrom(i);
            }
            return what == 0 ? absent : what == 1 ? shortestAbsent : longestAbsent;
        }

        /** Only a middle behind which not always the same comes can have absent words around it. */
        private void addAbsentFrom(int i) {
            for (int x = i + 1; x < word.size(); x++) {
                int length = twins.common(i, x);
                if (length > twins.earlier(i) && length <= MOST_LETTERS && seenFrom[length] != i) {
                    seenFrom[length] = i;
                    addAbsentAround(i, length);
                }
            }
        }

        private void addAbsentAround(int i, int length) {
            for (int letter = 0; letter < ALPHABET; letter++) {
                rightOf[letter] = 0;
            }
            int ahead = 0;
            int behind = 0;
            for (int x = i; x <= word.size() - length; x++) {
                if (twins.common(i, x) >= length) {
                    int left = word.at(x - 1);
                    int right = word.at(x + length);
                    ahead |= left >= 0 ? 1 << left : 0;
                    behind |= right >= 0 ? 1 << right : 0;
                    if (left >= 0 && left < ALPHABET && right >= 0) {
                        rightOf[left] |= 1 << right;
                    }
                }
            }
            for (int letter = 0; letter < ALPHABET; letter++) {
                if ((ahead >> letter & 1) == 1) {
                    addAbsent(length + 2, Integer.bitCount(behind & ~rightOf[letter]));
                }
            }
        }

        private void addAbsent(int length, int many) {
            if (many > 0) {
                shortestAbsent = absent == 0 ? length : Math.min(shortestAbsent, length);
                longestAbsent = Math.max(longestAbsent, length);
                absent += many;
            }
        }
    }

    /** Which is less: PARTS, rotations, ENDS, LYNDON words. */
    private static final class Orders {
        private final Word word;
        private final Twins twins;
        private final int[] endsInOrder = new int[MOST_LETTERS];
        private boolean sorted = false;

        Orders(Word word, Twins twins) {
            this.word = word;
            this.twins = twins;
        }

        void forget() {
            sorted = false;
        }

        /** -1: the first is less, 1: the second, 0: they are alike. */
        int lesserPart(int i, int j, int i2, int j2) {
            int shorter = Math.min(j - i, j2 - i2);
            int same = twins.common(i, i2);
            if (same >= shorter) {
                return Integer.compare(j - i, j2 - i2);
            }
            return word.at(i + same) < word.at(i2 + same) ? -1 : 1;
        }

        int leastRotation(int i, int j) {
            int best = 0;
            for (int o = 1; o < j - i; o++) {
                if (isRotationLess(i, j, o, best)) {
                    best = o;
                }
            }
            return best;
        }

        private boolean isRotationLess(int i, int j, int o, int best) {
            int length = j - i;
            for (int x = 0; x < length; x++) {
                int one = i + o + x;
                int other = i + best + x;
                int difference = word.at(one < j ? one : one - length) - word.at(other < j ? other : other - length);
                if (difference != 0) {
                    return difference < 0;
                }
            }
            return false;
        }

        /** Where the k-th LYNDON word of the row that the WORD is begins; k NONE: how many. */
        int factorBegin(boolean up, int k) {
            int many = 0;
            for (int begin = 0; begin < word.size(); begin += Math.max(1, factorSize(up, begin))) {
                if (many == k) {
                    return begin;
                }
                many++;
            }
            return k == NONE ? many : REFUSED;
        }

        /** Duval's walk up to its first factor, which is the longest LYNDON PART from there. */
        int factorSize(boolean up, int begin) {
            int ahead = begin;
            int x = begin + 1;
            while (x < word.size()) {
                int difference = up ? word.at(x) - word.at(ahead) : word.at(ahead) - word.at(x);
                if (difference < 0) {
                    break;
                }
                ahead = difference == 0 ? ahead + 1 : begin;
                x++;
            }
            return x - ahead;
        }

        int endAt(int k) {
            if (!sorted) {
                sort();
            }
            return k >= 0 && k < word.size() && k < MOST_LETTERS ? endsInOrder[k] : NONE;
        }

        private void sort() {
            sorted = true;
            int size = word.size();
            for (int begin = 0; begin < size && begin < MOST_LETTERS; begin++) {
                int x = begin;
                while (x > 0 && lesserPart(begin, size, endsInOrder[x - 1], size) < 0) {
                    endsInOrder[x] = endsInOrder[x - 1];
                    x--;
                }
                endsInOrder[x] = begin;
            }
        }
    }

    /** All RUNS of a word: fewer than it has letters. */
    private static final class RunList {
        private final int[] froms = new int[MOST_LETTERS];
        private final int[] tos = new int[MOST_LETTERS];
        private final int[] gaps = new int[MOST_LETTERS];
        private int size = 0;

        int size() {
            return size;
        }

        int from(int k) {
            return k >= 0 && k < size ? froms[k] : 0;
        }

        int to(int k) {
            return k >= 0 && k < size ? tos[k] : 0;
        }

        int gap(int k) {
            return k >= 0 && k < size ? gaps[k] : 1;
        }

        int thousandths(int k) {
            return (to(k) - from(k)) * THOUSAND / Math.max(1, gap(k));
        }

        int allThousandths() {
            int sum = 0;
            for (int k = 0; k < size; k++) {
                sum += thousandths(k);
            }
            return sum;
        }

        int over(int place) {
            int many = 0;
            for (int k = 0; k < size; k++) {
                many += from(k) <= place && place < to(k) ? 1 : 0;
            }
            return many;
        }

        void find(Word word) {
            size = 0;
            for (int gap = 1; 2 * gap <= word.size(); gap++) {
                findWithGap(word, gap);
            }
        }

        private void findWithGap(Word word, int gap) {
            byte[] letters = word.letters;
            int end = Math.min(word.size, MOST_LETTERS);
            int from = 0;
            for (int x = 0; x <= end - gap; x++) {
                if (x + gap < end && letters[x] == letters[x + gap]) {
                    continue;
                }
                if (x - from >= gap) {
                    add(from, x + gap, gap);
                }
                from = x + 1;
            }
        }

        /** What stands already at the same places has a lesser period: the gap is a multiple of that. */
        private void add(int from, int to, int gap) {
            for (int k = 0; k < size; k++) {
                if (froms[k] == from && tos[k] == to) {
                    return;
                }
            }
            if (size < MOST_LETTERS) {
                froms[size] = from;
                tos[size] = to;
                gaps[size] = gap;
                size++;
            }
        }

        /** They were found by rising periods, so ones that begin together keep that order. */
        void sort() {
            for (int k = 1; k < size; k++) {
                int from = froms[k];
                int to = tos[k];
                int gap = gaps[k];
                int x = k;
                while (x > 0 && froms[x - 1] > from) {
                    froms[x] = froms[x - 1];
                    tos[x] = tos[x - 1];
                    gaps[x] = gaps[x - 1];
                    x--;
                }
                froms[x] = from;
                tos[x] = to;
                gaps[x] = gap;
            }
        }
    }

    /** Palindromes by their middles: 2 c is the middle at place c, 2 c - 1 that ahead of it. */
    private static final class Mirrors {
        private final Word word;
        private final Twins twins;
        private final Tally tally = new Tally();
        private final int[] fewestTo = new int[MOST_LETTERS + 1];
        private final int[] spans = new int[2 * MOST_LETTERS];

        Mirrors(Word word, Twins twins) {
            this.word = word;
            this.twins = twins;
        }

        int longestAt(int place, boolean even) {
            return even ? span(2 * place - 1) : span(2 * place);
        }

        private int middles() {
            return 2 * word.size() - 1;
        }

        private int span(int middle) {
            if (middle < 0 || middle >= middles()) {
                return 0;
            }
            int low = middle >> 1;
            int high = middle + 1 >> 1;
            while (low >= 0 && high < word.size() && word.at(low) == word.at(high)) {
                low--;
                high++;
            }
            return high - low - 1;
        }

        Tally longestOnes() {
            tally.clear();
            for (int middle = 0; middle < middles(); middle++) {
                int span = span(middle);
                if (span > 0) {
                    tally.add(middle + 1 - span >> 1, span);
                }
            }
            return tally;
        }

        int all() {
            int many = 0;
            for (int middle = 0; middle < middles(); middle++) {
                many += span(middle) + 1 >> 1;
            }
            return many;
        }

        int unlikeOnes() {
            int many = 0;
            for (int middle = 0; middle < middles(); middle++) {
                for (int length = span(middle); length > 0; length -= 2) {
                    many += length > twins.earlier(middle + 1 - length >> 1) ? 1 : 0;
                }
            }
            return many;
        }

        int fewest() {
            for (int middle = 0; middle < middles() && middle < spans.length; middle++) {
                spans[middle] = span(middle);
            }
            fewestTo[0] = 0;
            for (int j = 1; j <= word.size() && j <= MOST_LETTERS; j++) {
                fewestTo[j] = fewestTo[j - 1] + 1;
                for (int i = j - 2; i >= 0; i--) {
                    if (spans[i + j - 1] >= j - i) {
                        fewestTo[j] = Math.min(fewestTo[j], fewestTo[i] + 1);
                    }
                }
            }
            return word.size() <= MOST_LETTERS ? fewestTo[word.size()] : NONE;
        }
    }
}
