import java.lang.reflect.InvocationTargetException;
import java.lang.reflect.Method;
import java.util.ArrayList;
import java.util.List;
import java.util.Random;

/** Long runs of calls, drawn from fixed seeds, on BuoyVote and on Model: all answers are the same. */
public final class ModelTest {
    private static final int RUNS = 400;
    private static final int CALLS = 512;
    private static final int FAULTS = 6000;

    private final Random random;
    private final List<String> told = new ArrayList<>();
    private BuoyVote vote;
    private Model model;
    private int calls;

    private ModelTest(long seed) {
        random = new Random(seed);
    }

    public static void main(String[] args) throws Exception {
        int wrong = 0;
        for (int run = 0; run < RUNS && wrong == 0; run++) {
            wrong += new ModelTest(run).longRun() ? 0 : 1;
        }
        wrong += new ModelTest(1000000).faults() ? 0 : 1;
        System.out.println(wrong == 0 ? "all answers are as the model's" : "not all answers are as the model's");
        if (wrong != 0) {
            System.exit(1);
        }
    }

    private boolean faults() throws Exception {
        for (int i = 0; i < FAULTS; i++) {
            vote = new BuoyVote();
            model = new Model();
            told.clear();
            int sort = random.nextInt(3);
            if (!feed(worn(right(sort))) || !call("fault", sort)) {
                return false;
            }
        }
        return true;
    }

    private boolean longRun() throws Exception {
        vote = new BuoyVote();
        model = new Model();
        Method[] methods = faceInOrder();
        calls = 0;
        while (calls < CALLS - 40) {
            if (random.nextInt(calls < 60 ? 8 : 40) == 0 || calls == 20) {
                int sort = calls < 60 || random.nextInt(3) == 0 ? random.nextInt(3) : 1 + random.nextInt(2);
                String text = right(sort);
                if (!feed(random.nextInt(5) == 0 ? worn(text) : text) || !call("fault", sort) || !call("text", sort)) {
                    return false;
                }
                if (sort == 1 && !call("law", random.nextInt(4))) {
                    return false;
                }
            } else if (!call(methods[random.nextInt(methods.length)])) {
                return false;
            }
        }
        return true;
    }

    /** Reflection tells no order of its own. */
    private static Method[] faceInOrder() {
        List<Method> face = new ArrayList<>();
        for (Method method : BuoyVote.class.getDeclaredMethods()) {
            if (java.lang.reflect.Modifier.isPublic(method.getModifiers())) {
                face.add(method);
            }
        }
        face.sort((a, b) -> a.getName().compareTo(b.getName()));
        return face.toArray(new Method[0]);
    }

    private boolean feed(String text) throws Exception {
        if (!call("end", 0)) {
            return false;
        }
        int[] words = new int[60];
        for (int i = 0; i < text.length() && i < 240; i++) {
            words[i / 4] |= text.charAt(i) << 24 - i % 4 * 8;
        }
        for (int i = 0; i < (text.length() + 19) / 20 && i < 12; i++) {
            if (!call("feed", words[5 * i], words[5 * i + 1], words[5 * i + 2], words[5 * i + 3], words[5 * i + 4])) {
                return false;
            }
        }
        return true;
    }

    private boolean call(String name, int... arguments) throws Exception {
        for (Method method : BuoyVote.class.getDeclaredMethods()) {
            if (method.getName().equals(name)) {
                Object[] boxed = new Object[arguments.length];
                for (int i = 0; i < arguments.length; i++) {
                    boxed[i] = arguments[i];
                }
                return same(method, boxed);
            }
        }
        return false;
    }

    private boolean call(Method method) throws Exception {
        Class<?>[] types = method.getParameterTypes();
        Object[] arguments = new Object[types.length];
        for (int i = 0; i < types.length; i++) {
            if (types[i] == long.class) {
                arguments[i] = random.nextLong();
            } else {
                arguments[i] = argument(method.getName(), i);
            }
        }
        if (method.getName().equals("text") && random.nextInt(4) != 0) {
            return true;
        }
        return same(method, arguments);
    }

    private int argument(String name, int i) {
        if (random.nextInt(40) == 0) {
            int[] odd = {-1, -2, Integer.MIN_VALUE, Integer.MAX_VALUE, 8, 3, 61, 19, 10, 256, 240, 13};
            return odd[random.nextInt(odd.length)];
        }
        switch (name) {
            case "feed": return random.nextInt(3) == 0 ? random.nextInt() : 0;
            case "buoy": return random.nextInt(9);
            case "row": return random.nextInt(i == 0 ? 3 : 10);
            case "wind": return random.nextInt(i == 0 ? 10 : 4);
            case "hours": case "years": return 1 + random.nextInt(random.nextInt(4) == 0 ? 60 : 12);
            case "log": return random.nextInt(i == 0 ? 62 : 3);
            case "step": return random.nextInt(i == 1 ? 16 : 4);
            case "ahead": return i == 0 ? random.nextInt(8) : random.nextInt(61);
            case "round": return i == 0 ? random.nextInt(3) : i == 1 ? random.nextInt(random.nextInt(30) == 0 ? 256 : 64)
                : random.nextInt(2);
            case "rests": return i == 2 ? random.nextInt(6) - 1 : random.nextInt(3);
            case "game": return i < 2 ? random.nextInt(3) : i < 4 ? random.nextInt(8) : random.nextInt(2);
            case "holds": return i == 2 ? random.nextInt(2) : random.nextInt(3);
            case "seen": return i == 0 ? random.nextInt(8) : i == 3 ? random.nextInt(3) : random.nextInt(19);
            case "likes": return i == 0 ? random.nextInt(8) : random.nextInt(100) - 1;
            case "blown": return random.nextInt(19);
            case "washed": return i == 2 ? random.nextInt(5) - 1 : random.nextInt(5);
            case "watch": return random.nextInt(19);
            case "fair": return i == 0 ? 1 + random.nextInt(60) : random.nextInt(2);
            case "fog": return i == 0 ? random.nextInt(3) : random.nextInt(101);
            case "sing": case "scrape": case "soon": case "needs": return random.nextInt(i == 0 ? 3 : 8);
            case "pull": case "push": return random.nextInt(i == 0 ? 8 : 3);
            case "boat": return random.nextInt(i == 0 ? 3 : 8);
            case "count": return random.nextInt(13);
            case "law": return random.nextInt(5) - 1;
            case "end": return random.nextInt(240);
            default: return random.nextInt(i == 0 ? 4 : 2);
        }
    }

    private boolean same(Method method, Object[] arguments) throws Exception {
        calls++;
        Method twin = Model.class.getDeclaredMethod(method.getName(), method.getParameterTypes());
        String got = answer(method, vote, arguments);
        String want = answer(twin, model, arguments);
        StringBuilder line = new StringBuilder(method.getName()).append('(');
        for (Object argument : arguments) {
            line.append(argument).append(' ');
        }
        told.add(line.append(") ").append(got).toString());
        if (!got.equals(want)) {
            told.forEach(System.out::println);
            System.out.println("the model answers " + want);
        }
        return got.equals(want);
    }

    private static String answer(Method method, Object object, Object[] arguments) throws Exception {
        try {
            return String.valueOf(method.invoke(object, arguments));
        } catch (InvocationTargetException e) {
            return "throws " + e.getCause().getClass().getName();
        }
    }

    private String right(int sort) {
        String text = sort == 0 ? borough() : sort == 1 ? law() : plan();
        return text.length() > 240 ? right(sort) : text;
    }

    /** The text with blanks put in, or with a few bytes changed, put in, left out. */
    private String worn(String text) {
        StringBuilder worn = new StringBuilder(text);
        int changes = random.nextInt(3);
        for (int i = 0; i < changes; i++) {
            int at = random.nextInt(worn.length() + 1);
            String signs = " ;;bcsxyaefowdthrvlpg:?|&!()[]=<>+-*/0123456789" + (char) (1 + random.nextInt(255));
            char sign = signs.charAt(random.nextInt(signs.length()));
            if (at < worn.length() && random.nextInt(3) == 0) {
                worn.deleteCharAt(at);
            } else if (at < worn.length() && random.nextInt(2) == 0) {
                worn.setCharAt(at, sign);
            } else {
                worn.insert(at, sign);
            }
        }
        int blanks = random.nextInt(2) * random.nextInt(6);
        for (int i = 0; i < blanks; i++) {
            worn.insert(random.nextInt(worn.length() + 1), ' ');
        }
        if (random.nextInt(12) == 0) {
            worn.setLength(random.nextInt(worn.length() + 1));
        }
        return worn.length() > 240 ? worn.substring(0, 240) : worn.toString();
    }

    private String items(String letters, int... most) {
        StringBuilder items = new StringBuilder();
        int from = random.nextInt(letters.length());
        for (int k = 0; k < letters.length(); k++) {
            int i = (from + k) % letters.length();
            if (random.nextInt(3) != 0) {
                int low = most[i] < 0 ? 1 : 0;
                int value = low + random.nextInt(Math.abs(most[i]) + 1 - low);
                items.append(letters.charAt(i)).append(value);
            }
        }
        return items.toString();
    }

    private String borough() {
        List<String> clauses = new ArrayList<>();
        if (random.nextInt(4) != 0) {
            clauses.add("s" + items("wdth", 9, 3, -12, -20));
        }
        int buoys = 1 + random.nextInt(8);
        for (int i = 0; i < buoys; i++) {
            String place = random.nextInt(30) == 0 ? "" : "x" + random.nextInt(10) + "y" + i;
            clauses.add("b" + (random.nextBoolean() ? place + items("caefor", 9, 9, 9, 9, 3, 9)
                : items("caefor", 4, 9, 9, 9, 3, 9) + place));
        }
        int boats = 2 + random.nextInt(2);
        for (int i = 0; i < boats; i++) {
            clauses.add("c" + items("xysv", 9, 9, -4, 9));
        }
        java.util.Collections.shuffle(clauses, random);
        return String.join(";", clauses);
    }

    private String law() {
        int clauses = 1 + random.nextInt(3);
        StringBuilder law = new StringBuilder();
        for (int i = 0; i < clauses; i++) {
            law.append(i == 0 ? "y:" : ";y:");
            if (random.nextInt(3) != 0) {
                law.append(condition(0)).append('?');
            }
            law.append(sum(0));
        }
        return law.toString();
    }

    private String condition(int depth) {
        StringBuilder condition = new StringBuilder(unit(depth));
        while (random.nextInt(3) == 0) {
            condition.append("&|".charAt(random.nextInt(2))).append(unit(depth));
        }
        return condition.toString();
    }

    private String unit(int depth) {
        int kind = depth < 7 ? random.nextInt(5) : 4;
        if (kind == 0) {
            return "!" + unit(depth + 1);
        }
        if (kind == 1) {
            return "(" + condition(depth + 1) + ")";
        }
        return sum(depth) + "=<>".charAt(random.nextInt(3)) + sum(depth);
    }

    private String sum(int depth) {
        StringBuilder sum = new StringBuilder(atom(depth));
        while (random.nextInt(2) == 0) {
            sum.append("+-*/+-".charAt(random.nextInt(6))).append(atom(depth));
        }
        return sum.toString();
    }

    private String atom(int depth) {
        int kind = random.nextInt(8);
        if (kind == 0 && depth < 7) {
            return "[" + sum(depth + 1) + "]";
        }
        if (kind < 6) {
            return "vlrdph".charAt(random.nextInt(6)) + "";
        }
        return "" + random.nextInt(random.nextInt(6) == 0 ? 12000 : 12);
    }

    private String plan() {
        int steps = 1 + random.nextInt(random.nextInt(4) == 0 ? 17 : 6);
        StringBuilder plan = new StringBuilder();
        for (int i = 0; i < steps; i++) {
            plan.append(i == 0 ? "" : ";");
            int boat = random.nextInt(random.nextInt(20) == 0 ? 10 : 2);
            int buoy = random.nextInt(random.nextInt(20) == 0 ? 10 : 3);
            switch (random.nextInt(5)) {
                case 0: plan.append("s").append(boat).append(buoy); break;
                case 1: plan.append("c").append(boat).append(buoy); break;
                case 2: plan.append("h").append(random.nextInt(10)); break;
                default: plan.append("g").append(boat).append(random.nextInt(10)).append(random.nextInt(10)); break;
            }
        }
        return plan.toString();
    }
}
