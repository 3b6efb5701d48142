/** Asks what a TEXT tells, on a new object. */
final class Texts {
    static final int CANNOT_STAND = 1;
    static final int NUMBER_WRONG = 2;
    static final int TOO_MANY = 3;
    static final int TOO_DEEP = 4;

    private Texts() {
    }

    static void told(String text, String word) {
        WordRuns x = new WordRuns();
        Check.due(text, Words.tell(x, text), word.length());
        Check.holds(text + " tells " + word + ", not " + Words.read(x), Words.read(x).equals(word));
        Check.due("bytes of the TAPE behind " + text, x.count(3), 0);
    }

    static void faulty(String text, int place, int kind) {
        WordRuns x = new WordRuns();
        Check.due(text, Words.tell(x, text), -2 - (8 * place + kind));
        Check.due("letters behind " + text, x.count(0), 0);
        Check.due("bytes of the TAPE behind " + text, x.count(3), 0);
    }
}
