import java.util.HashMap;
import java.util.Map;
import java.util.regex.Matcher;
import java.util.regex.Pattern;

/** A second reading of TEXTS by the document's words, over Strings: the word that one tells, or its FAULT. */
final class SlowText {
    private static final int CANNOT_STAND = 1;
    private static final int NUMBER_WRONG = 2;
    private static final int TOO_MANY = 3;
    private static final int TOO_DEEP = 4;
    private static final Pattern TOKEN = Pattern.compile("[a-z]+|[0-9]+|.", Pattern.DOTALL);

    /** Ends the reading at the first FAULT. */
    private static final class Fault extends RuntimeException {
        private static final long serialVersionUID = 1L;
        private final int number;

        Fault(int place, int kind) {
            super(null, null, false, false);
            number = 8 * place + kind;
        }
    }

    /** A WORD, NUMBER, other byte or (sign "") the text's end, with its place. */
    private record Token(int place, String sign) {
        boolean isWord() {
            return sign.matches("[a-z]+");
        }

        boolean isNumber() {
            return sign.matches("[0-9]+");
        }
    }

    private final String text;
    private final Map<String, String> rows = new HashMap<>();
    private int at = 0;
    private int open = 0;

    private SlowText(String text) {
        this.text = text;
    }

    /** The word that a TEXT tells; null if it tells none. */
    static String word(String text) {
        try {
            return new SlowText(text).read();
        } catch (Fault fault) {
            return null;
        }
    }

    /** The FAULT of a TEXT; 0 if it has none. */
    static int fault(String text) {
        try {
            new SlowText(text).read();
            return 0;
        } catch (Fault fault) {
            return fault.number;
        }
    }

    private Token peek() {
        while (at < text.length() && text.charAt(at) == ' ') {
            at++;
        }
        Matcher found = TOKEN.matcher(text).region(at, text.length());
        return new Token(at, found.lookingAt() ? found.group() : "");
    }

    private Token next() {
        Token token = peek();
        at = token.place() + token.sign().length();
        return token;
    }

    private void expect(String sign) {
        Token token = next();
        if (!token.sign().equals(sign)) {
            throw new Fault(token.place(), CANNOT_STAND);
        }
    }

    private String read() {
        while (peek().sign().equals("let")) {
            next();
            Token name = next();
            if (!name.sign().matches("[a-z]{1,3}") || name.sign().matches("let|rev|fib")) {
                throw new Fault(name.place(), CANNOT_STAND);
            }
            if (rows.size() == 4 && !rows.containsKey(name.sign())) {
                throw new Fault(name.place(), TOO_MANY);
            }
            expect("=");
            String row = row();
            expect(";");
            rows.put(name.sign(), row);
        }
        String row = row();
        expect("");
        return row;
    }

    private String row() {
        StringBuilder row = new StringBuilder();
        do {
            int place = peek().place();
            row.append(item());
            if (row.length() > 120) {
                throw new Fault(place, TOO_MANY);
            }
        } while (peek().sign().equals("'") || peek().isNumber() || peek().isWord());
        return row.toString();
    }

    private String item() {
        Token token = next();
        if (token.sign().equals("'")) {
            return letters();
        }
        if (token.isNumber()) {
            int times = number(token, 60);
            return inside().repeat(times);
        }
        switch (token.sign()) {
            case "rev":
                return new StringBuilder(inside()).reverse().toString();
            case "fib":
                return grown("b", "a", number(next(), 20));
            case "morse":
                return Words.morse(number(next(), 8));
            default:
                if (!rows.containsKey(token.sign())) {
                    throw new Fault(token.place(), CANNOT_STAND);
                }
                return rows.get(token.sign());
        }
    }

    private String letters() {
        int begin = at;
        while (at < text.length() && text.charAt(at) >= 'a' && text.charAt(at) <= 'z') {
            at++;
        }
        if (at == begin || at == text.length() || text.charAt(at) != '\'') {
            throw new Fault(at, CANNOT_STAND);
        }
        at++;
        return text.substring(begin, at - 1);
    }

    private String inside() {
        Token bracket = next();
        if (!bracket.sign().equals("(")) {
            throw new Fault(bracket.place(), CANNOT_STAND);
        }
        open++;
        if (open == 7) {
            throw new Fault(bracket.place(), TOO_DEEP);
        }
        String row = row();
        expect(")");
        open--;
        return row;
    }

    private static int number(Token token, int most) {
        if (!token.isNumber()) {
            throw new Fault(token.place(), CANNOT_STAND);
        }
        String digits = token.sign().replaceFirst("^0+(?=.)", "");
        if (digits.length() > 2 || Integer.parseInt(digits) > most) {
            throw new Fault(token.place(), NUMBER_WRONG);
        }
        return Integer.parseInt(digits);
    }

    private static String grown(String before, String word, int n) {
        String one = before;
        String two = word;
        for (int step = 0; step < n; step++) {
            String three = two + one;
            one = two;
            two = three;
        }
        return one;
    }
}
