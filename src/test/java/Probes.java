import java.util.ArrayList;
import java.util.List;

/**
 * All that can be asked of an object, in parts: each takes an object of its own, as the last of them use it up (UNDO,
 * BACK, the TAPE), and as no object is to be used for more than 512 calls.
 */
final class Probes {
    static final int COUNT = 7;
    private static final int NONE = BuoyVote.NONE;

    private Probes() { }

    static List<Long> ask(int probe, BuoyVote vote) {
        List<Long> answers = new ArrayList<>();
        switch (probe) {
            case 0: state(vote, answers); break;
            case 1: log(vote, answers); break;
            case 2: texts(vote, answers); break;
            case 3: tape(vote, answers); break;
            case 4: undo(vote, answers); break;
            case 5: back(vote, answers); break;
            default: later(vote, answers); break;
        }
        return answers;
    }

    private static void state(BuoyVote vote, List<Long> answers) {
        for (int what = 0; what <= 12; what++) {
            answers.add((long) vote.count(what));
        }
        for (int what = 0; what <= 4; what++) {
            answers.add((long) vote.rule(what));
        }
        for (int boat = 0; boat < vote.count(1); boat++) {
            for (int what = 0; what <= 7; what++) {
                answers.add((long) vote.boat(boat, what));
            }
        }
        for (int buoy = 0; buoy < vote.count(0); buoy++) {
            for (int what = 0; what <= 8; what++) {
                answers.add((long) vote.buoy(buoy, what));
            }
        }
    }

    private static void log(BuoyVote vote, List<Long> answers) {
        for (int i = 0; i <= vote.count(11); i++) {
            for (int boat = 0; boat < 3; boat++) {
                answers.add((long) vote.log(i, boat));
            }
        }
    }

    private static void texts(BuoyVote vote, List<Long> answers) {
        for (int plan = 0; plan < vote.count(3); plan++) {
            for (int i = 0; i < 16 && vote.step(plan, i, 0) != BuoyVote.HIDDEN; i++) {
                for (int what = 0; what <= 3; what++) {
                    answers.add((long) vote.step(plan, i, what));
                }
            }
        }
        for (int buoy = 0; buoy < vote.count(0); buoy++) {
            int likes = vote.likes(buoy, NONE);
            answers.add((long) likes);
            answers.add((long) vote.likes(buoy, 0));
            answers.add((long) vote.likes(buoy, likes - 1));
        }
        for (int law = 0; law < vote.count(2); law++) {
            vote.law(law);
            answers.add((long) vote.pull(0, 0));
            answers.add((long) vote.pull(0, 1));
        }
    }

    private static void tape(BuoyVote vote, List<Long> answers) {
        int length = vote.count(4);
        int fewer = Math.max(1, length / 40);
        for (int n = length; n >= 0; n -= fewer) {
            answers.add(vote.end(n) ? 1L : 0L);
            for (int sort = 0; sort < 3; sort++) {
                answers.add((long) vote.fault(sort));
            }
        }
    }

    private static void undo(BuoyVote vote, List<Long> answers) {
        for (int i = 0; i <= 40; i++) {
            answers.add((long) vote.undo());
            answers.add((long) vote.count(6));
            answers.add((long) vote.count(8));
            answers.add((long) vote.boat(0, 0));
            answers.add((long) vote.boat(1, 4));
        }
    }

    private static void back(BuoyVote vote, List<Long> answers) {
        answers.add((long) vote.back());
        state(vote, answers);
    }

    private static void later(BuoyVote vote, List<Long> answers) {
        answers.add((long) vote.hours(3));
        answers.add((long) vote.years(3, 77));
        state(vote, answers);
    }
}
