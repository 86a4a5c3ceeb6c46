/** WORTH of a LAW straight from its text (without blanks, without a FAULT), for Model. */
final class LawModel {
    private final String text;
    private final int[] letters;
    private int at;

    LawModel(String text, int[] letters) {
        this.text = text;
        this.letters = letters;
    }

    long worth() {
        for (String clause : text.split(";")) {
            String body = clause.substring(2);
            int mark = body.indexOf('?');
            if (mark < 0 || new LawModel(body.substring(0, mark), letters).condition()) {
                return new LawModel(body.substring(mark + 1), letters).sum();
            }
        }
        return 0;
    }

    private char sign() {
        return at < text.length() ? text.charAt(at) : 0;
    }

    private boolean condition() {
        boolean value = truth();
        while (sign() == '|') {
            at++;
            value = truth() || value;
        }
        return value;
    }

    private boolean truth() {
        boolean value = unit();
        while (sign() == '&') {
            at++;
            value = unit() && value;
        }
        return value;
    }

    private boolean unit() {
        if (sign() == '!') {
            at++;
            return !unit();
        }
        if (sign() == '(') {
            at++;
            boolean value = condition();
            at++;
            return value;
        }
        long left = sum();
        char sign = sign();
        at++;
        long right = sum();
        return sign == '=' ? left == right : sign == '<' ? left < right : left > right;
    }

    private static long held(long value) {
        return Math.max(-1000000, Math.min(1000000, value));
    }

    private long sum() {
        long value = term();
        while (sign() == '+' || sign() == '-') {
            boolean plus = sign() == '+';
            at++;
            long next = term();
            value = held(plus ? value + next : value - next);
        }
        return value;
    }

    private long term() {
        long value = atom();
        while (sign() == '*' || sign() == '/') {
            boolean times = sign() == '*';
            at++;
            long next = atom();
            value = held(times ? value * next : next == 0 ? 0 : value / next);
        }
        return value;
    }

    private long atom() {
        if (sign() == '[') {
            at++;
            long value = sum();
            at++;
            return value;
        }
        int letter = "vlrdph".indexOf(sign());
        if (letter >= 0) {
            at++;
            return letters[letter];
        }
        long value = 0;
        while (Character.isDigit(sign())) {
            value = value * 10 + sign() - '0';
            at++;
        }
        return value;
    }
}
