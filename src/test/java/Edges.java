import java.io.IOException;
import java.lang.reflect.InvocationTargetException;
import java.lang.reflect.Method;
import java.nio.file.Files;
import java.nio.file.Path;
import java.util.ArrayList;
import java.util.LinkedHashMap;
import java.util.List;
import java.util.Map;
import java.util.NoSuchElementException;

/**
 * Sentences of the document, each with a test of its own. What is quoted must stand in ../shared/DOC.md, every sentence
 * of its terms and promises must be quoted, and what is refused must leave whatever can be asked as it was.
 */
final class Edges {
    static final int NONE = BuoyVote.NONE;
    static final int HIDDEN = BuoyVote.HIDDEN;
    /** Stands for the NoSuchElementException of buoy. */
    static final long THROWN = Long.MIN_VALUE;
    private static final int[] EXTREMES = {Integer.MIN_VALUE, Integer.MIN_VALUE + 1, -1000000, 1000000,
        Integer.MAX_VALUE - 1, Integer.MAX_VALUE};

    /** What is done to a new object ahead of a call. */
    interface Setup {
        void on(BuoyVote vote);
    }

    /** A call; a boolean counts 1 or 0. */
    interface Call {
        long on(BuoyVote vote);
    }

    private final Map<String, List<String>> sentences = new LinkedHashMap<>();
    private final Map<String, List<String>> quotes = new LinkedHashMap<>();
    private String quoted = "";
    private int asked;
    private int refusals;
    private int wrong;

    Edges() throws IOException {
        String[] parts = Files.readString(Path.of("../shared/DOC.md")).split("\n## ");
        for (String part : parts) {
            String heading = part.substring(0, part.indexOf('\n'));
            if (heading.equals("Terms") || heading.startsWith("Promise ")) {
                String name = heading.substring(heading.indexOf(':') + 1).trim();
                sentences.put(name, sentencesOf(part.substring(heading.length())));
                quotes.put(name, new ArrayList<>());
            }
        }
    }

    private static List<String> sentencesOf(String text) {
        String plain = text.replace("```text", " ").replace("```", " ").replaceAll("==== [0-9]\\.", " ")
            .replaceAll("\\s+", " ").trim();
        if (plain.startsWith("`")) {
            plain = plain.substring(plain.indexOf("`: ") + 3);
        }
        return List.of(plain.split("(?<=\\.|\\.\\)) (?=[A-Z(`-]|x, )"));
    }

    /** The sentence that the following answers are due by. */
    void sentence(String part, String quote) {
        quoted = part + ": " + quote;
        List<String> own = quotes.get(part);
        if (own == null || sentences.get(part).stream().noneMatch(s -> s.contains(quote))) {
            wrong++;
            System.out.println("this does not stand in the document: " + quoted);
        } else {
            own.add(quote);
        }
    }

    void due(String call, long got, long want) {
        asked++;
        if (got != want) {
            wrong++;
            System.out.println("[" + quoted + "] " + call + " answered " + got + ", due is " + want);
        }
    }

    void due(String call, boolean got, boolean want) {
        due(call, got ? 1 : 0, want ? 1 : 0);
    }

    void all(String calls, long[] got, long... want) {
        due(calls + ": how many", got.length, want.length);
        for (int i = 0; i < got.length && i < want.length; i++) {
            due(calls + " [" + i + "]", got[i], want[i]);
        }
    }

    static BuoyVote after(Setup setup) {
        BuoyVote vote = new BuoyVote();
        setup.on(vote);
        return vote;
    }

    BuoyVote borough(String text) {
        BuoyVote vote = new BuoyVote();
        Checks.tape(vote, text);
        due("text(0) of '" + text + "' is taken", vote.text(0) > 0, true);
        return vote;
    }

    /** Tells a LAW and makes it hold: its number. */
    int rule(BuoyVote vote, String law) {
        Checks.tape(vote, law);
        int number = vote.text(1);
        due("text(1) of '" + law + "' is taken", number >= 0 && vote.law(number), true);
        return number;
    }

    int plan(BuoyVote vote, String plan) {
        Checks.tape(vote, plan);
        int number = vote.text(2);
        due("text(2) of '" + plan + "' is taken", number >= 0, true);
        return number;
    }

    /** The FAULT of a text is there; a text with one is refused, the TAPE stays; one without is taken. */
    void fault(int sort, String text, int want) {
        Setup fed = vote -> Checks.tape(vote, text);
        due("fault(" + sort + ") of '" + text + "'", after(fed).fault(sort), want);
        if (want != NONE) {
            refused("text(" + sort + ") of '" + text + "'", fed, vote -> vote.text(sort), NONE);
        } else {
            BuoyVote vote = after(fed);
            due("text(" + sort + ") of '" + text + "' is taken", vote.text(sort) >= 0, true);
            due("count(4) behind text of '" + text + "'", vote.count(4), 0);
        }
    }

    /**
     * Behind that beginning just these signs can stand, and blanks: each other byte is the FAULT, and behind one that
     * can stand there is none, or it is at the end.
     */
    void next(int sort, String beginning, String signs) {
        for (int sign = 1; sign < 256; sign++) {
            BuoyVote vote = new BuoyVote();
            Checks.tape(vote, beginning + (char) sign);
            int fault = vote.fault(sort);
            int here = beginning.length();
            String call = "fault(" + sort + ") of '" + beginning + "' and byte " + sign;
            if (sign == ' ' || signs.indexOf(sign) >= 0) {
                due(call + " is none or behind it: " + fault, fault == NONE || fault == here + 1, true);
            } else {
                due(call, fault, here);
            }
        }
    }

    /** The call is refused by that answer, and all that is asked then is answered as if it had not been. */
    void refused(String name, Setup setup, Call call, long want) {
        refusals++;
        for (int probe = 0; probe < Probes.COUNT; probe++) {
            BuoyVote one = after(setup);
            due(name, answer(call, one), want);
            same(name + " is refused and changes nothing", Probes.ask(probe, one), Probes.ask(probe, after(setup)));
        }
    }

    /** What only asks changes nothing, whatever it answers. */
    void unchanged(String name, Setup setup, Call call) {
        for (int probe = 0; probe < Probes.COUNT; probe++) {
            BuoyVote one = after(setup);
            answer(call, one);
            same(name + " changes nothing", Probes.ask(probe, one), Probes.ask(probe, after(setup)));
        }
    }

    private void same(String name, List<Long> got, List<Long> want) {
        asked++;
        if (!got.equals(want)) {
            wrong++;
            System.out.println("[" + quoted + "] not so: " + name + "\n  " + got + "\n  " + want);
        }
    }

    static long answer(Call call, BuoyVote vote) {
        try {
            return call.on(vote);
        } catch (NoSuchElementException e) {
            return THROWN;
        }
    }

    /**
     * Each argument by itself, the others as in base: at its two bounds the call is not refused, beyond them it is, and
     * changes nothing then.
     */
    void bounds(String name, Setup setup, long refusal, int[] base, int[]... bounds) {
        for (int i = 0; i < base.length; i++) {
            for (int bound : bounds[i]) {
                int[] arguments = with(base, i, bound);
                String call = told(name, arguments);
                boolean right = answer(vote -> invoke(name, vote, arguments), after(setup)) != refusal;
                due(call + " is not refused", right, true);
            }
            beyond(name, setup, refusal, with(base, i, bounds[i][0] - 1));
            beyond(name, setup, refusal, with(base, i, bounds[i][1] + 1));
            for (int extreme : EXTREMES) {
                beyond(name, setup, refusal, with(base, i, extreme));
            }
        }
    }

    void beyond(String name, Setup setup, long refusal, int... arguments) {
        refused(told(name, arguments), setup, vote -> invoke(name, vote, arguments), refusal);
    }

    private static int[] with(int[] base, int i, int value) {
        int[] arguments = base.clone();
        arguments[i] = value;
        return arguments;
    }

    private static String told(String name, int[] arguments) {
        StringBuilder told = new StringBuilder(name).append('(');
        for (int i = 0; i < arguments.length; i++) {
            told.append(i == 0 ? "" : ", ").append(arguments[i]);
        }
        return told.append(')').toString();
    }

    private static long invoke(String name, BuoyVote vote, int... arguments) {
        for (Method method : BuoyVote.class.getDeclaredMethods()) {
            if (method.getName().equals(name) && java.lang.reflect.Modifier.isPublic(method.getModifiers())) {
                Class<?>[] types = method.getParameterTypes();
                Object[] boxed = new Object[types.length];
                for (int i = 0; i < types.length; i++) {
                    // The seed of years is the one argument that is no int: any will do.
                    boxed[i] = types[i] == long.class ? (Object) 5L : (Object) arguments[i];
                }
                return invoke(method, vote, boxed);
            }
        }
        throw new IllegalArgumentException(name);
    }

    private static long invoke(Method method, BuoyVote vote, Object[] arguments) {
        try {
            Object answer = method.invoke(vote, arguments);
            return answer instanceof Boolean yes ? (yes ? 1 : 0) : (Integer) answer;
        } catch (InvocationTargetException e) {
            if (e.getCause() instanceof NoSuchElementException none) {
                throw none;
            }
            throw new IllegalStateException(e.getCause());
        } catch (IllegalAccessException e) {
            throw new IllegalStateException(e);
        }
    }

    void finish() {
        int tested = 0;
        for (Map.Entry<String, List<String>> part : sentences.entrySet()) {
            for (String sentence : part.getValue()) {
                if (quotes.get(part.getKey()).stream().anyMatch(sentence::contains)) {
                    tested++;
                } else {
                    wrong++;
                    System.out.println("no test of its own: " + part.getKey() + ": " + sentence);
                }
            }
        }
        System.out.println(tested + " sentences, " + asked + " answers, " + refusals + " refused calls, " + wrong
            + " not as due");
        if (wrong != 0) {
            System.exit(1);
        }
    }
}
