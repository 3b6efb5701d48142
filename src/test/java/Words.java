import java.util.ArrayList;
import java.util.List;
import java.util.Random;

/** Makes words, objects that hold them, and reads words back by letter(). */
final class Words {
    private Words() {
    }

    static int feedText(WordRuns x, byte[] text) {
        int[] numbers = new int[(text.length + 19) / 20 * 5];
        for (int at = 0; at < text.length; at++) {
            numbers[at / 4] |= (text[at] & 255) << (24 - 8 * (at % 4));
        }
        int before = x.count(3);
        for (int at = 0; at < numbers.length; at += 5) {
            x.feed(numbers[at], numbers[at + 1], numbers[at + 2], numbers[at + 3], numbers[at + 4]);
        }
        return x.end(before + text.length);
    }

    /** Text as bytes 0 to 255. */
    static byte[] bytes(String text) {
        byte[] bytes = new byte[text.length()];
        for (int at = 0; at < bytes.length; at++) {
            bytes[at] = (byte) text.charAt(at);
        }
        return bytes;
    }

    static int tell(WordRuns x, String text) {
        feedText(x, bytes(text));
        return x.tell();
    }

    /** The FAULT of a TEXT; 0 if it has none. */
    static int fault(String text) {
        int answer = tell(new WordRuns(), text);
        return answer >= 0 ? 0 : -2 - answer;
    }

    static WordRuns of(String word) {
        WordRuns x = new WordRuns();
        tell(x, word.isEmpty() ? "0('a')" : "'" + word + "'");
        return x;
    }

    static String read(WordRuns x) {
        StringBuilder word = new StringBuilder();
        int letter = x.letter(0);
        while (letter >= 0) {
            word.append((char) ('a' + letter));
            letter = x.letter(word.length());
        }
        return word.toString();
    }

    static String fib(int n) {
        return n == 0 ? "b" : n == 1 ? "a" : fib(n - 1) + fib(n - 2);
    }

    static String morse(int n) {
        if (n == 0) {
            return "a";
        }
        String half = morse(n - 1);
        return half + half.replace('a', 'x').replace('b', 'a').replace('x', 'b');
    }

    static String random(Random random, int length, int letters) {
        StringBuilder word = new StringBuilder();
        for (int place = 0; place < length; place++) {
            word.append((char) ('a' + random.nextInt(letters)));
        }
        return word.toString();
    }

    /** A power of a short word with a few letters changed, cut to a length. */
    static String nearPower(Random random, int length, int letters) {
        String base = random(random, 1 + random.nextInt(Math.max(1, length / 2)), letters);
        StringBuilder word = new StringBuilder(base.repeat(length / base.length() + 1));
        word.setLength(length);
        for (int change = random.nextInt(3); change > 0 && length > 0; change--) {
            word.setCharAt(random.nextInt(length), (char) ('a' + random.nextInt(letters)));
        }
        return word.toString();
    }

    /** All words of a length over the first so many letters. */
    static List<String> all(int length, int letters) {
        List<String> words = new ArrayList<>();
        words.add("");
        for (int place = 0; place < length; place++) {
            List<String> longer = new ArrayList<>();
            for (String word : words) {
                for (int letter = 0; letter < letters; letter++) {
                    longer.add(word + (char) ('a' + letter));
                }
            }
            words = longer;
        }
        return words;
    }

    /** All letters moved up alike, up to z; those that would come beyond it are z. */
    static String spread(Random random, String word) {
        int shift = random.nextInt(26);
        StringBuilder shifted = new StringBuilder();
        for (int place = 0; place < word.length(); place++) {
            shifted.append((char) Math.min('z', word.charAt(place) + shift));
        }
        return shifted.toString();
    }
}
