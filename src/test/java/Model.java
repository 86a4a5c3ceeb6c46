import java.math.BigInteger;
import java.util.ArrayList;
import java.util.Arrays;
import java.util.List;
import java.util.NoSuchElementException;

/**
 * The document once more, in the plainest way: everything is tried out, nothing is kept from call to call but what was
 * told and done. FaultModel tells the FAULTS. Written for ModelTest, which compares it with BuoyVote.
 */
final class Model {
    private static final int NONE = -1;
    private static final int HIDDEN = -1000000;

    /** All that ACTS change; a copy of it is what UNDO and IMAGE keep. */
    private static final class State implements Cloneable {
        int wind;
        int way;
        int hour;
        int[][] boats;
        int[][] goals;
        int[] won;
        int[] sang;
        int[][] liking;
        int[] old;
        int[] barnacles;
        List<int[]> log = new ArrayList<>();

        State copy() {
            State s = new State();
            s.wind = wind;
            s.way = way;
            s.hour = hour;
            s.boats = deep(boats);
            s.goals = deep(goals);
            s.won = won.clone();
            s.sang = sang.clone();
            s.liking = deep(liking);
            s.old = old.clone();
            s.barnacles = barnacles.clone();
            s.log = new ArrayList<>(log);
            return s;
        }

        private static int[][] deep(int[][] rows) {
            int[][] copy = new int[rows.length][];
            for (int i = 0; i < rows.length; i++) {
                copy[i] = rows[i].clone();
            }
            return copy;
        }
    }

    private String tape = "";
    private final List<String> laws = new ArrayList<>();
    private final List<String> plans = new ArrayList<>();
    private int holding = NONE;
    private int tide;
    private int between;
    private int[][] at = new int[0][];
    private int[] chain;
    private int[] speed = new int[0];
    private int[] voice;
    private State now;
    private State kept;
    private final List<State> acts = new ArrayList<>();
    private final List<int[]> seen = new ArrayList<>();

    int feed(int a, int b, int c, int d, int e) {
        StringBuilder more = new StringBuilder(tape);
        for (int word : new int[] {a, b, c, d, e}) {
            for (int shift = 24; shift >= 0; shift -= 8) {
                if ((word >> shift & 255) != 0) {
                    more.append((char) (word >> shift & 255));
                }
            }
        }
        if (more.length() > 240) {
            return NONE;
        }
        tape = more.toString();
        return tape.length();
    }

    boolean end(int n) {
        if (n < 0 || n > tape.length()) {
            return false;
        }
        tape = tape.substring(0, n);
        return true;
    }

    int fault(int sort) {
        switch (sort) {
            case 0: return FaultModel.borough(tape);
            case 1: return FaultModel.law(tape);
            case 2: return FaultModel.plan(tape);
            default: return -2;
        }
    }

    int text(int sort) {
        if (fault(sort) != NONE) {
            return NONE;
        }
        String plain = tape.replace(" ", "");
        if (sort == 0) {
            tell(plain.split(";"));
            tape = "";
            return at.length;
        }
        List<String> kept = sort == 1 ? laws : plans;
        if (kept.size() == 4) {
            return NONE;
        }
        kept.add(plain);
        tape = "";
        return kept.size() - 1;
    }

    private static int item(String clause, char letter, int without) {
        int found = clause.indexOf(letter, 1);
        if (found < 0) {
            return without;
        }
        int end = found + 1;
        while (end < clause.length() && Character.isDigit(clause.charAt(end))) {
            end++;
        }
        return Integer.parseInt(clause.substring(found + 1, end));
    }

    private void tell(String[] clauses) {
        List<String> b = new ArrayList<>();
        List<String> c = new ArrayList<>();
        String s = "s";
        for (String clause : clauses) {
            if (clause.charAt(0) == 'b') {
                b.add(clause);
            } else if (clause.charAt(0) == 'c') {
                c.add(clause);
            } else {
                s = clause;
            }
        }
        now = new State();
        now.wind = item(s, 'w', 2);
        now.way = item(s, 'd', 0);
        tide = item(s, 't', 6);
        between = item(s, 'h', 8);
        at = new int[b.size()][];
        chain = new int[b.size()];
        now.liking = new int[b.size()][];
        now.old = new int[b.size()];
        now.barnacles = new int[b.size()];
        for (int i = 0; i < b.size(); i++) {
            String t = b.get(i);
            at[i] = new int[] {item(t, 'x', 0), item(t, 'y', 0)};
            chain[i] = item(t, 'c', 3);
            now.liking[i] = new int[] {item(t, 'a', 0), item(t, 'e', 0), item(t, 'f', 0)};
            now.old[i] = item(t, 'o', 3) < c.size() ? item(t, 'o', 3) : NONE;
            now.barnacles[i] = item(t, 'r', 2);
        }
        speed = new int[c.size()];
        voice = new int[c.size()];
        now.boats = new int[c.size()][];
        now.goals = new int[c.size()][];
        now.won = new int[c.size()];
        now.sang = new int[c.size()];
        for (int i = 0; i < c.size(); i++) {
            String t = c.get(i);
            now.boats[i] = new int[] {item(t, 'x', 0), item(t, 'y', 0)};
            now.goals[i] = now.boats[i].clone();
            speed[i] = item(t, 's', 2);
            voice[i] = item(t, 'v', 3);
        }
        kept = null;
        acts.clear();
        seen.clear();
    }

    private boolean noBuoy(int buoy) {
        return buoy < 0 || buoy >= at.length;
    }

    private boolean noBoat(int boat) {
        return boat < 0 || boat >= speed.length;
    }

    private static int away(int[] one, int[] other) {
        return Math.abs(one[0] - other[0]) + Math.abs(one[1] - other[1]);
    }

    private boolean rises(State s) {
        return s.hour % (2 * tide) < tide;
    }

    private int pushed(State s, int buoy, int boat) {
        int dx = Integer.signum(s.boats[boat][0] - at[buoy][0]);
        int dy = Integer.signum(s.boats[boat][1] - at[buoy][1]);
        int[] byWay = {dx, dy, -dx, -dy};
        int push = s.wind * byWay[s.way];
        if (rises(s) && dx > 0 || !rises(s) && dx < 0) {
            push++;
        }
        return push;
    }

    private int worth(int v, int l, int r, int d, int p, int h) {
        if (holding == NONE) {
            return v + l + r + p - d;
        }
        long worth = new LawModel(laws.get(holding), new int[] {v, l, r, d, p, h}).worth();
        return (int) Math.max(-99, Math.min(99, worth));
    }

    private int drawn(State s, int buoy, int boat) {
        return worth(voice[boat], s.liking[buoy][boat], s.old[buoy] == boat ? s.barnacles[buoy] : 0,
            away(s.boats[boat], at[buoy]), pushed(s, buoy, boat), s.hour);
    }

    private int leans(State s, int buoy) {
        for (int boat = 0; boat < speed.length; boat++) {
            boolean greatest = drawn(s, buoy, boat) >= chain[buoy];
            for (int other = 0; other < speed.length; other++) {
                greatest &= other == boat || drawn(s, buoy, other) < drawn(s, buoy, boat);
            }
            if (greatest) {
                return boat;
            }
        }
        return NONE;
    }

    private int[] tally(State s) {
        int[] tally = new int[3];
        for (int buoy = 0; buoy < at.length; buoy++) {
            if (leans(s, buoy) != NONE) {
                tally[leans(s, buoy)]++;
            }
        }
        return tally;
    }

    private static int most(int[] tally) {
        int[] sorted = tally.clone();
        Arrays.sort(sorted);
        if (sorted[2] == 0 || sorted[2] == sorted[1]) {
            return NONE;
        }
        return tally[0] == sorted[2] ? 0 : tally[1] == sorted[2] ? 1 : 2;
    }

    private void hour(State s) {
        for (int boat = 0; boat < speed.length; boat++) {
            for (int cell = 0; cell < speed[boat]; cell++) {
                int axis = s.boats[boat][0] != s.goals[boat][0] ? 0 : 1;
                s.boats[boat][axis] += Integer.signum(s.goals[boat][axis] - s.boats[boat][axis]);
            }
        }
        s.hour++;
        int[] tally = tally(s);
        s.log.add(0, tally);
        if (s.log.size() > 60) {
            s.log.remove(60);
        }
        if (s.hour % between == 0) {
            if (most(tally) != NONE) {
                s.won[most(tally)]++;
            }
            for (int buoy = 0; buoy < at.length; buoy++) {
                int lean = leans(s, buoy);
                if (lean != NONE) {
                    s.barnacles[buoy] = s.old[buoy] == lean ? Math.min(9, s.barnacles[buoy] + 1) : 1;
                    s.old[buoy] = lean;
                }
            }
        }
    }

    private void act() {
        acts.add(now.copy());
        if (acts.size() > 40) {
            acts.remove(0);
        }
    }

    int rule(int what) {
        if (now == null || what < 0 || what > 4) {
            return NONE;
        }
        return new int[] {now.wind, now.way, tide, between, rises(now) ? 1 : 0}[what];
    }

    int buoy(int buoy, int what) {
        if (noBuoy(buoy) || what < 0 || what > 8) {
            throw new NoSuchElementException();
        }
        int[] liking = now.liking[buoy];
        return new int[] {at[buoy][0], at[buoy][1], chain[buoy], liking[0], liking[1], liking[2], now.old[buoy],
            now.barnacles[buoy], leans(now, buoy)}[what];
    }

    int boat(int boat, int what) {
        if (noBoat(boat) || what < 0 || what > 7) {
            return NONE;
        }
        return new int[] {now.boats[boat][0], now.boats[boat][1], speed[boat], voice[boat], now.goals[boat][0],
            now.goals[boat][1], now.won[boat], now.sang[boat]}[what];
    }

    boolean law(int law) {
        if (law < NONE || law >= laws.size()) {
            return false;
        }
        holding = law;
        return true;
    }

    int pull(int buoy, int boat) {
        return noBuoy(buoy) || noBoat(boat) ? HIDDEN : drawn(now, buoy, boat);
    }

    int push(int buoy, int boat) {
        return noBuoy(buoy) || noBoat(boat) ? HIDDEN : pushed(now, buoy, boat);
    }

    private static boolean off(int x) {
        return x < 0 || x > 9;
    }

    private boolean rows(State s, int boat, int x, int y) {
        if (noBoat(boat) || off(x) || off(y) || Arrays.equals(s.goals[boat], new int[] {x, y})) {
            return false;
        }
        s.goals[boat] = new int[] {x, y};
        return true;
    }

    private boolean sings(State s, int boat, int buoy) {
        if (noBoat(boat) || noBuoy(buoy) || away(s.boats[boat], at[buoy]) > 1 || s.liking[buoy][boat] == 9) {
            return false;
        }
        s.liking[buoy][boat]++;
        s.sang[boat]++;
        return true;
    }

    private boolean scrapes(State s, int boat, int buoy) {
        if (noBoat(boat) || noBuoy(buoy) || away(s.boats[boat], at[buoy]) > 1 || s.barnacles[buoy] == 0) {
            return false;
        }
        s.barnacles[buoy]--;
        return true;
    }

    private int legs(int away, int boat) {
        int hours = 0;
        while (hours * speed[boat] < away) {
            hours++;
        }
        return hours;
    }

    int row(int boat, int x, int y) {
        if (now == null || !rows(now.copy(), boat, x, y)) {
            return NONE;
        }
        act();
        rows(now, boat, x, y);
        return legs(away(now.boats[boat], now.goals[boat]), boat);
    }

    int sing(int boat, int buoy) {
        if (now == null || !sings(now.copy(), boat, buoy)) {
            return NONE;
        }
        act();
        sings(now, boat, buoy);
        return now.liking[buoy][boat];
    }

    int scrape(int boat, int buoy) {
        if (now == null || !scrapes(now.copy(), boat, buoy)) {
            return NONE;
        }
        act();
        scrapes(now, boat, buoy);
        return now.barnacles[buoy];
    }

    boolean wind(int v, int way) {
        if (now == null || off(v) || way < 0 || way > 3 || now.wind == v && now.way == way) {
            return false;
        }
        act();
        now.wind = v;
        now.way = way;
        return true;
    }

    int hours(int n) {
        if (now == null || n < 1 || n > 60 || now.hour + n > 9999) {
            return NONE;
        }
        for (int i = 0; i < n; i++) {
            act();
            hour(now);
        }
        return now.hour;
    }

    private BigInteger x;

    private int draw(int m) {
        x = x.multiply(new BigInteger("6364136223846793005")).add(new BigInteger("1442695040888963407"))
            .mod(BigInteger.ONE.shiftLeft(64));
        return x.shiftRight(33).mod(BigInteger.valueOf(m)).intValue();
    }

    int years(int n, long seed) {
        if (now == null || n < 1 || n > 60 || now.hour + n > 9999) {
            return NONE;
        }
        x = BigInteger.valueOf(seed).mod(BigInteger.ONE.shiftLeft(64));
        for (int i = 0; i < n; i++) {
            act();
            now.way = draw(4);
            now.wind = draw(10);
            for (int boat = 0; boat < speed.length; boat++) {
                now.goals[boat] = at[draw(at.length)].clone();
            }
            hour(now);
        }
        return now.hour;
    }

    int undo() {
        if (acts.isEmpty()) {
            return NONE;
        }
        now = acts.remove(acts.size() - 1);
        return acts.size();
    }

    int log(int i, int what) {
        if (now == null || i < 0 || i >= now.log.size() || what < 0 || what > 2) {
            return NONE;
        }
        return now.log.get(i)[what];
    }

    int step(int plan, int i, int what) {
        if (plan < 0 || plan >= plans.size() || what < 0 || what > 3) {
            return HIDDEN;
        }
        String[] steps = plans.get(plan).split(";");
        if (i < 0 || i >= steps.length) {
            return HIDDEN;
        }
        if (what == 0) {
            return "gsch".indexOf(steps[i].charAt(0));
        }
        return what < steps[i].length() ? steps[i].charAt(what) - '0' : NONE;
    }

    /** Tries a STEP that is no HOURS in a state: whether it can be. */
    private boolean tries(State s, int plan, int i) {
        int a = step(plan, i, 1);
        int b = step(plan, i, 2);
        switch (step(plan, i, 0)) {
            case 0: return rows(s, a, b, step(plan, i, 3));
            case 1: return sings(s, a, b);
            default: return scrapes(s, a, b);
        }
    }

    int run(int plan, int what) {
        if (plan < 0 || plan >= plans.size() || now == null || what < 0 || what > 1) {
            return HIDDEN;
        }
        State s = now.copy();
        int sang = 0;
        for (int i = 0; step(plan, i, 0) != HIDDEN; i++) {
            boolean can = step(plan, i, 0) == 3 ? step(plan, i, 1) > 0 : tries(s, plan, i);
            if (!can) {
                return what == 0 ? i : sang;
            }
            for (int h = 0; step(plan, i, 0) == 3 && h < step(plan, i, 1); h++) {
                hour(s);
            }
            sang += step(plan, i, 0) == 1 ? 1 : 0;
        }
        return what == 0 ? NONE : sang;
    }

    int perform(int plan) {
        if (plan < 0 || plan >= plans.size() || now == null) {
            return NONE;
        }
        int done = 0;
        while (step(plan, done, 0) != HIDDEN) {
            if (step(plan, done, 0) == 3) {
                if (step(plan, done, 1) == 0) {
                    return done;
                }
                for (int h = 0; h < step(plan, done, 1) && now.hour < 9999; h++) {
                    act();
                    hour(now);
                }
            } else {
                if (!tries(now.copy(), plan, done)) {
                    return done;
                }
                act();
                tries(now, plan, done);
            }
            done++;
        }
        return done;
    }

    int votes(int boat) {
        return noBoat(boat) ? NONE : tally(now)[boat];
    }

    int leader() {
        return now == null ? NONE : most(tally(now));
    }

    private State later(int n) {
        State s = now.copy();
        for (int i = 0; i < n; i++) {
            hour(s);
        }
        return s;
    }

    int ahead(int buoy, int n) {
        return noBuoy(buoy) || n < 0 || n > 60 ? HIDDEN : leans(later(n), buoy);
    }

    int soon(int boat, int buoy) {
        return noBoat(boat) || noBuoy(buoy) ? NONE : legs(away(now.boats[boat], at[buoy]), boat);
    }

    private int bestOrder;
    private int bestHours;

    private void orders(int boat, int[] from, int left, int order, int hours) {
        if (left == 0 && (hours < bestHours || hours == bestHours && order < bestOrder)) {
            bestHours = hours;
            bestOrder = order;
        }
        for (int next = 0; next < at.length; next++) {
            if ((left >> next & 1) != 0) {
                orders(boat, at[next], left & ~(1 << next), order * 10 + next, hours + legs(away(from, at[next]), boat));
            }
        }
    }

    int round(int boat, int buoys, int what) {
        if (noBoat(boat) || buoys < 0 || buoys >= 1 << at.length || what < 0 || what > 1) {
            return NONE;
        }
        bestHours = Integer.MAX_VALUE;
        orders(boat, now.boats[boat], buoys, 0, 0);
        return what == 0 ? bestOrder : bestHours;
    }

    int best(int boat, int what) {
        if (noBoat(boat) || what < 0 || what > 1) {
            return NONE;
        }
        int place = NONE;
        int most = NONE;
        State s = now.copy();
        for (int y = 0; y < 10; y++) {
            for (int x = 0; x < 10; x++) {
                s.boats[boat] = new int[] {x, y};
                if (tally(s)[boat] > most) {
                    most = tally(s)[boat];
                    place = 10 * y + x;
                }
            }
        }
        return what == 0 ? place : most;
    }

    int game(int one, int other, int x, int y, int what) {
        if (noBoat(one) || noBoat(other) || one == other || noBuoy(x) || noBuoy(y) || what < 0 || what > 1) {
            return NONE;
        }
        State s = now.copy();
        s.boats[one] = at[x].clone();
        s.boats[other] = at[y].clone();
        return tally(s)[what == 0 ? one : other];
    }

    int rests(int one, int other, int i) {
        if (noBoat(one) || noBoat(other) || one == other || i < NONE) {
            return NONE;
        }
        List<Integer> found = new ArrayList<>();
        for (int x = 0; x < at.length; x++) {
            for (int y = 0; y < at.length; y++) {
                boolean rest = true;
                for (int z = 0; z < at.length; z++) {
                    rest &= game(one, other, z, y, 0) <= game(one, other, x, y, 0);
                    rest &= game(one, other, x, z, 1) <= game(one, other, x, y, 1);
                }
                if (rest) {
                    found.add(10 * x + y);
                }
            }
        }
        return pick(found, i);
    }

    private static int pick(List<Integer> found, int i) {
        return i == NONE ? found.size() : i >= 0 && i < found.size() ? found.get(i) : NONE;
    }

    int holds(int one, int other, int what) {
        if (noBoat(one) || noBoat(other) || one == other || what < 0 || what > 1) {
            return HIDDEN;
        }
        int place = NONE;
        int best = -100;
        for (int x = 0; x < at.length; x++) {
            int worst = 100;
            for (int y = 0; y < at.length; y++) {
                worst = Math.min(worst, game(one, other, x, y, 0) - game(one, other, x, y, 1));
            }
            if (worst > best) {
                best = worst;
                place = x;
            }
        }
        return what == 0 ? place : best;
    }

    int seen(int buoy, int d, int e, int to) {
        if (noBuoy(buoy) || d < 0 || d > 18 || e < 0 || e > 18 || to < 0 || to > 2 || seen.size() == 10) {
            return NONE;
        }
        seen.add(new int[] {buoy, d, e, to});
        return seen.size();
    }

    private int answer(int buoy, int d, int e, int pair) {
        int one = worth(voice[0], pair / 10, 0, d, 0, 0);
        int other = worth(voice[1], pair % 10, 0, e, 0, 0);
        if (one > other && one >= chain[buoy]) {
            return 0;
        }
        return other > one && other >= chain[buoy] ? 1 : 2;
    }

    private List<Integer> fitting(int buoy) {
        List<Integer> found = new ArrayList<>();
        for (int pair = 0; pair < 100; pair++) {
            boolean fits = true;
            for (int[] s : seen) {
                fits &= s[0] != buoy || answer(buoy, s[1], s[2], pair) == s[3];
            }
            if (fits) {
                found.add(pair);
            }
        }
        return found;
    }

    int likes(int buoy, int i) {
        return noBuoy(buoy) ? NONE : pick(fitting(buoy), i);
    }

    int ask(int buoy) {
        if (noBuoy(buoy) || fitting(buoy).isEmpty()) {
            return NONE;
        }
        int best = NONE;
        int fewest = 1000;
        for (int d = 0; d <= 9; d++) {
            int[] given = new int[3];
            for (int pair : fitting(buoy)) {
                given[answer(buoy, d, 3, pair)]++;
            }
            Arrays.sort(given);
            if (given[2] < fewest) {
                fewest = given[2];
                best = d;
            }
        }
        return best;
    }

    int blown(int n, int k) {
        if (n < 0 || n > 18 || k < 0 || k > n) {
            return NONE;
        }
        BigInteger wind = BigInteger.valueOf(8).pow(k).multiply(BigInteger.valueOf(2).pow(n - k));
        BigInteger all = wind.add(BigInteger.valueOf(5).pow(n));
        return wind.multiply(BigInteger.valueOf(1000000)).divide(all).intValue();
    }

    int washed(int a, int b, int i) {
        if (now == null || a < 0 || a > 8 || b < 0 || b > 8) {
            return NONE;
        }
        List<Integer> found = new ArrayList<>();
        for (int set = 0; set < 1 << at.length; set++) {
            int[] tally = new int[3];
            boolean can = Integer.bitCount(set) <= 2;
            for (int buoy = 0; buoy < at.length; buoy++) {
                int lean = leans(now, buoy);
                boolean in = (set >> buoy & 1) != 0;
                can &= !in || lean == 0 || lean == 1;
                if (lean != NONE) {
                    tally[in && lean < 2 ? 1 - lean : lean]++;
                }
            }
            if (can && tally[0] == a && tally[1] == b) {
                found.add(set);
            }
        }
        return pick(found, i);
    }

    int watch(int r) {
        if (now == null || r < 0 || r > 18) {
            return NONE;
        }
        for (int size = 1; size <= at.length; size++) {
            for (int set = 0; set < 1 << at.length; set++) {
                boolean all = Integer.bitCount(set) == size;
                for (int buoy = 0; buoy < at.length; buoy++) {
                    boolean one = false;
                    for (int by = 0; by < at.length; by++) {
                        one |= (set >> by & 1) != 0 && away(at[buoy], at[by]) <= r;
                    }
                    all &= one;
                }
                if (all) {
                    return set;
                }
            }
        }
        return NONE;
    }

    int fair(int n, int what) {
        if (now == null || n < 1 || n > 60 || what < 0 || what > 1) {
            return NONE;
        }
        int best = NONE;
        int least = 100;
        State s = now.copy();
        for (int h = 0; h <= n; h++) {
            int[] tally = tally(s);
            if (Math.abs(tally[0] - tally[1]) < least) {
                least = Math.abs(tally[0] - tally[1]);
                best = h;
            }
            hour(s);
        }
        return what == 0 ? best : least;
    }

    int buoys(int what) {
        if (now == null || what < 0 || what > 1) {
            return NONE;
        }
        int bits = 0;
        for (int buoy = 0; buoy < at.length; buoy++) {
            boolean in = what == 0 ? chain[buoy] <= now.wind
                : leans(now, buoy) != NONE && leans(now, buoy) == now.old[buoy];
            bits += in ? 1 << buoy : 0;
        }
        return bits;
    }

    int sways(int buoy, int what) {
        if (noBuoy(buoy) || what < 0 || what > 1) {
            return HIDDEN;
        }
        int[] draws = new int[speed.length];
        for (int boat = 0; boat < speed.length; boat++) {
            draws[boat] = drawn(now, buoy, boat);
        }
        Arrays.sort(draws);
        int greatest = draws[speed.length - 1];
        return what == 0 ? chain[buoy] - greatest : greatest - draws[speed.length - 2];
    }

    int nearest(int boat) {
        if (noBoat(boat)) {
            return NONE;
        }
        for (int r = 0; r <= 18; r++) {
            for (int buoy = 0; buoy < at.length; buoy++) {
                if (away(now.boats[boat], at[buoy]) == r) {
                    return buoy;
                }
            }
        }
        return NONE;
    }

    private long fogged(int boat, int chance, int buoy, long part, int[] tally) {
        if (buoy == at.length) {
            return most(tally) == boat ? part : 0;
        }
        int lean = leans(now, buoy);
        if (lean == NONE) {
            return fogged(boat, chance, buoy + 1, part, tally);
        }
        long hidden = part * chance / 100;
        int[] shown = tally.clone();
        shown[lean]++;
        return fogged(boat, chance, buoy + 1, hidden, tally) + fogged(boat, chance, buoy + 1, part - hidden, shown);
    }

    int fog(int boat, int chance) {
        if (noBoat(boat) || chance < 0 || chance > 100) {
            return NONE;
        }
        return (int) fogged(boat, chance, 0, 1000000000L, new int[3]);
    }

    int needs(int boat, int buoy) {
        if (noBoat(boat) || noBuoy(buoy)) {
            return NONE;
        }
        State s = now.copy();
        for (int liking = 0; liking <= 9; liking++) {
            s.liking[buoy][boat] = liking;
            if (leans(s, buoy) == boat) {
                return liking;
            }
        }
        return NONE;
    }

    int heard(int boat) {
        if (noBoat(boat)) {
            return NONE;
        }
        int bits = 0;
        for (int buoy = 0; buoy < at.length; buoy++) {
            bits += away(now.boats[boat], at[buoy]) <= 1 ? 1 << buoy : 0;
        }
        return bits;
    }

    int middle() {
        if (now == null) {
            return NONE;
        }
        int best = NONE;
        int least = 1000;
        for (int y = 0; y < 10; y++) {
            for (int x = 0; x < 10; x++) {
                int sum = 0;
                for (int[] place : at) {
                    sum += away(place, new int[] {x, y});
                }
                if (sum < least) {
                    least = sum;
                    best = 10 * y + x;
                }
            }
        }
        return best;
    }

    int image() {
        if (now == null) {
            return NONE;
        }
        kept = now.copy();
        return now.hour;
    }

    int back() {
        if (kept == null) {
            return NONE;
        }
        now = kept.copy();
        acts.clear();
        return now.hour;
    }

    int count(int what) {
        int lean = 0;
        for (int buoy = 0; buoy < at.length; buoy++) {
            lean += leans(now, buoy) == NONE ? 0 : 1 << buoy;
        }
        boolean any = now != null;
        int[] counts = {at.length, speed.length, laws.size(), plans.size(), tape.length(), holding, any ? now.hour : 0,
            lean, any ? Arrays.stream(now.barnacles).sum() : 0, any ? Arrays.stream(now.won).sum() : 0, seen.size(),
            any ? now.log.size() : 0, acts.size()};
        return what < 0 || what >= counts.length ? HIDDEN : counts[what];
    }
}
