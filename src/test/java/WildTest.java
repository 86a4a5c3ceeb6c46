import java.lang.reflect.InvocationTargetException;
import java.lang.reflect.Method;
import java.lang.reflect.Modifier;
import java.util.ArrayList;
import java.util.List;
import java.util.NoSuchElementException;
import java.util.Random;

/** Any arguments in any state: nothing is thrown but by buoy, and what is refused changes nothing. */
public final class WildTest {
    private static final int[] ODD = {0, 1, 2, 3, 4, 7, 8, 9, 10, 18, 19, 60, 61, 100, 101, 255, 256, 9999, -1, -2, -1000000,
        Integer.MAX_VALUE, Integer.MIN_VALUE, 0x62636279, 0x3B3B3A3F};
    private static final String[] TEXTS = {"b;c;c", "bx1;bx2;bx3;bx4;bx5;bx6;bx7;bx8;c;c;c", "y:v", "y:[[[[[[v/d]]]]]]*h",
        "y:!!!!!!v=l?9999*9999*9999;y:0-9999*9999", "h9;h9;h9;g055;s00;c00", "s98;c98;g999;h0", "", "b;b;b", "y:v>"};

    public static void main(String[] args) throws Exception {
        Random random = new Random(7);
        int wrong = 0;
        List<Method> face = new ArrayList<>();
        for (Method method : BuoyVote.class.getDeclaredMethods()) {
            if (Modifier.isPublic(method.getModifiers())) {
                face.add(method);
            }
        }
        face.sort((a, b) -> a.getName().compareTo(b.getName()));
        for (int run = 0; run < 600; run++) {
            BuoyVote vote = new BuoyVote();
            for (int call = 0; call < 512; call++) {
                if (random.nextInt(12) == 0) {
                    Checks.tape(vote, TEXTS[random.nextInt(TEXTS.length)]);
                    vote.text(random.nextInt(3));
                }
                wrong += calls(vote, face.get(random.nextInt(face.size())), random) ? 0 : 1;
            }
        }
        wrong += refusals() ? 0 : 1;
        System.out.println(wrong == 0 ? "nothing wild came out" : wrong + " calls went wild");
        if (wrong != 0) {
            System.exit(1);
        }
    }

    private static boolean calls(BuoyVote vote, Method method, Random random) throws Exception {
        Class<?>[] types = method.getParameterTypes();
        Object[] arguments = new Object[types.length];
        for (int i = 0; i < types.length; i++) {
            int odd = random.nextBoolean() ? random.nextInt(4) : ODD[random.nextInt(ODD.length)];
            arguments[i] = types[i] == long.class ? (Object) (random.nextLong() >> random.nextInt(64)) : (Object) odd;
        }
        try {
            method.invoke(vote, arguments);
            return true;
        } catch (InvocationTargetException e) {
            boolean due = method.getName().equals("buoy") && e.getCause().getClass() == NoSuchElementException.class
                && e.getCause().getStackTrace()[0].getClassName().equals("BuoyVote");
            if (!due) {
                System.out.println(method.getName() + " threw " + e.getCause());
            }
            return due;
        }
    }

    /** A row of refused calls leaves all that can be asked as it was. */
    private static boolean refusals() {
        BuoyVote vote = new BuoyVote();
        Checks.tape(vote, "sh2;bx1a9r0;bx9y9;c;cx2y2s2");
        vote.text(0);
        vote.row(0, 3, 3);
        vote.hours(2);
        vote.image();
        vote.hours(1);
        Checks.tape(vote, "b;c;cx99;q");
        String before = state(vote);
        vote.end(99);
        vote.text(0);
        vote.text(1);
        vote.text(2);
        vote.text(3);
        vote.law(0);
        vote.row(0, 3, 3);
        vote.sing(1, 1);
        vote.scrape(0, 0);
        vote.wind(2, 0);
        vote.hours(61);
        vote.years(0, 1);
        vote.perform(0);
        vote.seen(0, 0, 0, 3);
        vote.run(0, 0);
        vote.ahead(0, 60);
        vote.fair(60, 0);
        vote.best(0, 0);
        vote.rests(0, 1, -1);
        vote.holds(0, 1, 0);
        vote.needs(0, 0);
        vote.game(0, 1, 0, 1, 0);
        boolean same = state(vote).equals(before);
        if (!same) {
            System.out.println("refused calls changed " + before + " to " + state(vote));
        }
        return same;
    }

    private static String state(BuoyVote vote) {
        StringBuilder state = new StringBuilder();
        for (int what = 0; what < 13; what++) {
            state.append(vote.count(what)).append(' ').append(vote.rule(what)).append(' ');
            for (int boat = 0; boat < 2; boat++) {
                state.append(vote.boat(boat, what)).append(' ').append(vote.log(what, boat)).append(' ');
            }
        }
        for (int what = 0; what < 9; what++) {
            state.append(vote.buoy(0, what)).append(' ').append(vote.buoy(1, what)).append(' ');
        }
        return state.append(vote.fault(0)).toString();
    }
}
