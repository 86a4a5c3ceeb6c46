/** What the tests share: texts as bytes of the TAPE, answers compared and counted. */
final class Checks {
    private int wrong;
    private int asked;

    static void tape(BuoyVote vote, String text) {
        vote.end(0);
        more(vote, text);
    }

    /** Feeds a text behind what the TAPE has: the answer of the last feed. */
    static int more(BuoyVote vote, String text) {
        int answer = vote.feed(0, 0, 0, 0, 0);
        for (int from = 0; from < text.length(); from += 20) {
            answer = vote.feed(word(text, from), word(text, from + 4), word(text, from + 8),
                word(text, from + 12), word(text, from + 16));
        }
        return answer;
    }

    private static int word(String text, int from) {
        int word = 0;
        for (int i = from; i < from + 4; i++) {
            word = word << 8 | (i < text.length() ? text.charAt(i) & 255 : 0);
        }
        return word;
    }

    /** A new object with that BOROUGH. */
    BuoyVote borough(String text) {
        BuoyVote vote = new BuoyVote();
        tape(vote, text);
        due("text(0) of " + text, vote.text(0) > 0, true);
        return vote;
    }

    /** Makes that LAW hold. */
    void rule(BuoyVote vote, String law) {
        tape(vote, law);
        int number = vote.text(1);
        due("text(1) of " + law, number >= 0, true);
        due("law(" + number + ")", vote.law(number), true);
    }

    int plan(BuoyVote vote, String plan) {
        tape(vote, plan);
        int number = vote.text(2);
        due("text(2) of " + plan, number >= 0, true);
        return number;
    }

    void fault(int sort, String text, int want) {
        BuoyVote vote = new BuoyVote();
        tape(vote, text);
        due("fault(" + sort + ") of '" + text + "'", vote.fault(sort), want);
        boolean room = want != BuoyVote.NONE;
        due("count(4) behind fault of '" + text + "'", vote.count(4), text.length());
        due("text(" + sort + ") of '" + text + "' refused", vote.text(sort) == BuoyVote.NONE, room);
        due("count(4) behind text of '" + text + "'", vote.count(4), room ? text.length() : 0);
    }

    void due(String call, long got, long want) {
        asked++;
        if (got != want) {
            wrong++;
            System.out.println(call + " answered " + got + ", due is " + want);
        }
    }

    void due(String call, boolean got, boolean want) {
        due(call, got ? 1 : 0, want ? 1 : 0);
    }

    /** Answers of a row of calls at once. */
    void all(String calls, long[] got, long... want) {
        due(calls + ": how many", got.length, want.length);
        for (int i = 0; i < got.length && i < want.length; i++) {
            due(calls + " [" + i + "]", got[i], want[i]);
        }
    }

    void noSuchBuoy(BuoyVote vote, int buoy, int what) {
        boolean thrown = false;
        try {
            vote.buoy(buoy, what);
        } catch (java.util.NoSuchElementException e) {
            thrown = true;
        }
        due("buoy(" + buoy + ", " + what + ") throws", thrown, true);
    }

    void finish() {
        System.out.println(asked + " answers, " + wrong + " not as due");
        if (wrong != 0) {
            System.exit(1);
        }
    }
}
