import java.util.NoSuchElementException;

/** Buoys hold the election: a BOROUGH of BUOYS and BOATS, its LAWS and PLANS, told as texts. */
public final class BuoyVote {
    public static final int NONE = -1;
    public static final int HIDDEN = -1000000;

    private static final int MOST_BUOYS = 8;
    private static final int MOST_BOATS = 3;
    private static final int MOST_TEXTS = 4;
    private static final int SIDE = 10;
    private static final int MOST_LIKING = 9;
    private static final int MOST_BARNACLES = 9;
    private static final int MOST_WIND = 9;
    private static final int WAYS = 4;
    private static final int FARTHEST = 18;
    private static final int MOST_HOURS = 60;
    private static final int LAST_HOUR = 9999;
    private static final int MOST_LOGGED = 60;
    private static final int NO_SORT = -2;
    /** More than any DRAW, AWAY, HOURS and number of pairs that a search begins with. */
    private static final int BEYOND_ALL = 1000000;
    private static final long ALL_PARTS = 1000000000L;
    private static final long DRAW_FACTOR = 6364136223846793005L;
    private static final long DRAW_ADDEND = 1442695040888963407L;

    private final Tape tape;
    private final Borough told;
    private final Borough draft;
    private final LawBook laws;
    private final Plan[] plans;
    private int planCount;
    private final Waters waters;
    private final Sea now;
    private final Sea apart;
    private final History history;
    private final Sightings sightings;
    private final Duel duel;
    private final Charts charts;
    private final long[] parts;
    private final int[] shown;
    private long drawn;

    public BuoyVote() {
        tape = new Tape();
        told = new Borough();
        draft = new Borough();
        laws = new LawBook();
        // One more than may be kept: the first behind those that are kept is where a text is read.
        plans = new Plan[MOST_TEXTS + 1];
        for (int i = 0; i < plans.length; i++) {
            plans[i] = new Plan();
        }
        waters = new Waters(told, laws);
        now = new Sea();
        apart = new Sea();
        history = new History();
        sightings = new Sightings(told, laws);
        duel = new Duel(told, waters);
        charts = new Charts(told);
        parts = new long[1 << MOST_BUOYS];
        shown = new int[MOST_BOATS];
    }

    public int feed(int a, int b, int c, int d, int e) {
        int more = Tape.bytesIn(a) + Tape.bytesIn(b) + Tape.bytesIn(c) + Tape.bytesIn(d) + Tape.bytesIn(e);
        if (tape.length + more > Tape.ROOM) {
            return NONE;
        }
        tape.append(a);
        tape.append(b);
        tape.append(c);
        tape.append(d);
        tape.append(e);
        return tape.length;
    }

    public boolean end(int n) {
        if (!isWithin(n, 0, tape.length)) {
            return false;
        }
        tape.length = n;
        return true;
    }

    public int fault(int sort) {
        switch (sort) {
            case 0:
                return draft.faultOf(tape);
            case 1:
                return laws.spare().faultOf(tape);
            case 2:
                return plans[planCount].faultOf(tape);
            default:
                return NO_SORT;
        }
    }

    public int text(int sort) {
        switch (sort) {
            case 0:
                return draft.faultOf(tape) == NONE ? beginBorough() : NONE;
            case 1:
                return laws.spare().faultOf(tape) == NONE ? keepLaw() : NONE;
            case 2:
                return plans[planCount].faultOf(tape) == NONE ? keepPlan() : NONE;
            default:
                return NONE;
        }
    }

    public int rule(int what) {
        if (!hasBorough()) {
            return NONE;
        }
        switch (what) {
            case 0:
                return now.wind;
            case 1:
                return now.way;
            case 2:
                return told.tideHours();
            case 3:
                return told.countHours();
            case 4:
                return waters.isRising(now.hour) ? 1 : 0;
            default:
                return NONE;
        }
    }

    public int buoy(int buoy, int what) throws NoSuchElementException {
        if (!isBuoy(buoy) || !isWithin(what, 0, 8)) {
            throw new NoSuchElementException();
        }
        switch (what) {
            case 0:
                return told.buoyX(buoy);
            case 1:
                return told.buoyY(buoy);
            case 2:
                return told.chain(buoy);
            case 6:
                return now.old[buoy];
            case 7:
                return now.barnacles[buoy];
            case 8:
                return waters.leanOf(now, buoy);
            default:
                return now.liking[buoy * MOST_BOATS + what - 3];
        }
    }

    public int boat(int boat, int what) {
        if (!isBoat(boat)) {
            return NONE;
        }
        switch (what) {
            case 0:
                return now.x[boat];
            case 1:
                return now.y[boat];
            case 2:
                return told.speed(boat);
            case 3:
                return told.voice(boat);
            case 4:
                return now.goalX[boat];
            case 5:
                return now.goalY[boat];
            case 6:
                return now.won[boat];
            case 7:
                return now.sang[boat];
            default:
                return NONE;
        }
    }

    public boolean law(int law) {
        if (!isWithin(law, NONE, laws.size - 1)) {
            return false;
        }
        laws.holding = law;
        return true;
    }

    public int pull(int buoy, int boat) {
        return isBuoy(buoy) && isBoat(boat) ? waters.drawOf(now, buoy, boat) : HIDDEN;
    }

    public int push(int buoy, int boat) {
        return isBuoy(buoy) && isBoat(boat) ? waters.pushOf(now, buoy, boat) : HIDDEN;
    }

    public int row(int boat, int x, int y) {
        if (!canRow(now, boat, x, y)) {
            return NONE;
        }
        history.remember(now);
        now.goalX[boat] = x;
        now.goalY[boat] = y;
        return hoursFor(now.awayOf(boat, x, y), told.speed(boat));
    }

    public int sing(int boat, int buoy) {
        if (!canSing(now, boat, buoy)) {
            return NONE;
        }
        history.remember(now);
        now.singTo(boat, buoy);
        return now.liking[buoy * MOST_BOATS + boat];
    }

    public int scrape(int boat, int buoy) {
        if (!canScrape(now, boat, buoy)) {
            return NONE;
        }
        history.remember(now);
        now.barnacles[buoy]--;
        return now.barnacles[buoy];
    }

    public boolean wind(int v, int way) {
        if (!hasBorough() || !isWithin(v, 0, MOST_WIND) || !isWithin(way, 0, WAYS - 1)) {
            return false;
        }
        if (v == now.wind && way == now.way) {
            return false;
        }
        history.remember(now);
        now.wind = v;
        now.way = way;
        return true;
    }

    public int hours(int n) {
        if (!canPass(n)) {
            return NONE;
        }
        for (int i = 0; i < n; i++) {
            history.remember(now);
            liveHour();
        }
        return now.hour;
    }

    public int years(int n, long seed) {
        if (!canPass(n)) {
            return NONE;
        }
        drawn = seed;
        for (int i = 0; i < n; i++) {
            history.remember(now);
            now.way = drawOutOf(WAYS);
            now.wind = drawOutOf(MOST_WIND + 1);
            for (int boat = 0; boat < told.boats; boat++) {
                int buoy = drawOutOf(told.buoys);
                now.goalX[boat] = told.buoyX(buoy);
                now.goalY[boat] = told.buoyY(buoy);
            }
            liveHour();
        }
        return now.hour;
    }

    public int undo() {
        return history.takeBack(now) ? history.acts : NONE;
    }

    public int log(int i, int what) {
        if (!isWithin(i, 0, now.logLength() - 1) || !isWithin(what, 0, MOST_BOATS - 1)) {
            return NONE;
        }
        return history.logged(now.logged - 1 - i, what);
    }

    public int step(int plan, int i, int what) {
        if (!isPlan(plan) || !isWithin(i, 0, plans[plan].steps - 1) || !isWithin(what, 0, 3)) {
            return HIDDEN;
        }
        return plans[plan].part(i, what);
    }

    public int run(int plan, int what) {
        if (!isPlan(plan) || !hasBorough() || !isWithin(what, 0, 1)) {
            return HIDDEN;
        }
        Plan steps = plans[plan];
        apart.copyFrom(now);
        int done = 0;
        int sang = 0;
        while (done < steps.steps && canDo(apart, steps, done)) {
            if (steps.part(done, 0) == Plan.SING) {
                sang++;
            }
            if (steps.part(done, 0) == Plan.HOURS) {
                passApart(steps.part(done, 1));
            } else {
                change(apart, steps, done);
            }
            done++;
        }
        if (what == 1) {
            return sang;
        }
        return done == steps.steps ? NONE : done;
    }

    public int perform(int plan) {
        if (!isPlan(plan) || !hasBorough()) {
            return NONE;
        }
        Plan steps = plans[plan];
        int done = 0;
        while (done < steps.steps && canDo(now, steps, done)) {
            if (steps.part(done, 0) == Plan.HOURS) {
                // At the last HOUR none goes by any more, though the STEP is done.
                for (int i = 0; i < steps.part(done, 1) && now.hour < LAST_HOUR; i++) {
                    history.remember(now);
                    liveHour();
                }
            } else {
                history.remember(now);
                change(now, steps, done);
            }
            done++;
        }
        return done;
    }

    public int votes(int boat) {
        if (!isBoat(boat)) {
            return NONE;
        }
        waters.tallyUp(now);
        return waters.tally[boat];
    }

    public int leader() {
        if (!hasBorough()) {
            return NONE;
        }
        waters.tallyUp(now);
        return waters.winner();
    }

    public int ahead(int buoy, int n) {
        if (!isBuoy(buoy) || !isWithin(n, 0, MOST_HOURS)) {
            return HIDDEN;
        }
        apart.copyFrom(now);
        passApart(n);
        return waters.leanOf(apart, buoy);
    }

    public int soon(int boat, int buoy) {
        if (!isBoat(boat) || !isBuoy(buoy)) {
            return NONE;
        }
        return hoursFor(now.awayOf(boat, told.buoyX(buoy), told.buoyY(buoy)), told.speed(boat));
    }

    public int round(int boat, int buoys, int what) {
        if (!isBoat(boat) || !isWithin(buoys, 0, (1 << told.buoys) - 1) || !isWithin(what, 0, 1)) {
            return NONE;
        }
        charts.plot(now, boat, buoys);
        return what == 0 ? charts.orderOf(buoys) : charts.hoursOf(buoys);
    }

    public int best(int boat, int what) {
        if (!isBoat(boat) || !isWithin(what, 0, 1)) {
            return NONE;
        }
        apart.copyFrom(now);
        waters.setBars(apart, boat);
        int place = 0;
        int most = NONE;
        for (int at = 0; at < SIDE * SIDE; at++) {
            apart.x[boat] = at % SIDE;
            apart.y[boat] = at / SIDE;
            int won = waters.overBars(apart, boat);
            if (won > most) {
                most = won;
                place = at;
            }
        }
        return what == 0 ? place : most;
    }

    public int game(int one, int other, int x, int y, int what) {
        if (!isPair(one, other) || !isBuoy(x) || !isBuoy(y) || !isWithin(what, 0, 1)) {
            return NONE;
        }
        apart.copyFrom(now);
        apart.put(one, told.buoyX(x), told.buoyY(x));
        apart.put(other, told.buoyX(y), told.buoyY(y));
        waters.tallyUp(apart);
        return waters.tally[what == 0 ? one : other];
    }

    public int rests(int one, int other, int i) {
        if (!isPair(one, other) || i < NONE) {
            return NONE;
        }
        apart.copyFrom(now);
        duel.lay(apart, one, other);
        int found = 0;
        for (int x = 0; x < told.buoys; x++) {
            for (int y = 0; y < told.buoys; y++) {
                if (duel.isAtRest(x, y)) {
                    if (found == i) {
                        return SIDE * x + y;
                    }
                    found++;
                }
            }
        }
        return i == NONE ? found : NONE;
    }

    public int holds(int one, int other, int what) {
        if (!isPair(one, other) || !isWithin(what, 0, 1)) {
            return HIDDEN;
        }
        apart.copyFrom(now);
        duel.lay(apart, one, other);
        int place = 0;
        for (int x = 1; x < told.buoys; x++) {
            if (duel.worstAt(x) > duel.worstAt(place)) {
                place = x;
            }
        }
        return what == 0 ? place : duel.worstAt(place);
    }

    public int seen(int buoy, int d, int e, int to) {
        if (!isBuoy(buoy) || !isWithin(d, 0, FARTHEST) || !isWithin(e, 0, FARTHEST) || !isWithin(to, 0, 2)) {
            return NONE;
        }
        return sightings.add(buoy, d, e, to) ? sightings.size : NONE;
    }

    public int likes(int buoy, int i) {
        if (!isBuoy(buoy) || i < NONE) {
            return NONE;
        }
        int fitting = sightings.fit(buoy);
        if (i == NONE) {
            return fitting;
        }
        return i < fitting ? sightings.fitting(i) : NONE;
    }

    public int ask(int buoy) {
        if (!isBuoy(buoy) || sightings.fit(buoy) == 0) {
            return NONE;
        }
        return sightings.bestLook(buoy);
    }

    public int blown(int n, int k) {
        if (!isWithin(n, 0, FARTHEST) || !isWithin(k, 0, n)) {
            return NONE;
        }
        // Tenths to the n: 8 k times and 2 n - k times against 5 n times.
        long byWind = 1L << (n + 2 * k);
        long byLiking = 1;
        for (int i = 0; i < n; i++) {
            byLiking *= 5;
        }
        long all = byWind + byLiking;
        long rest = byWind;
        int share = 0;
        // Digit by digit, as byWind times 10 to the 6 is beyond 64 bits.
        for (int digit = 0; digit < 6 && all > 0; digit++) {
            rest *= 10;
            share = share * 10 + (int) (rest / all);
            rest %= all;
        }
        return share;
    }

    public int washed(int a, int b, int i) {
        if (!hasBorough() || !isWithin(a, 0, MOST_BUOYS) || !isWithin(b, 0, MOST_BUOYS) || i < NONE) {
            return NONE;
        }
        waters.tallyUp(now);
        int zeros = waters.leaningTo(0);
        int ones = waters.leaningTo(1);
        int found = 0;
        for (int set = 0; set < 1 << told.buoys; set++) {
            int over = Integer.bitCount(set & zeros) - Integer.bitCount(set & ones);
            boolean mayBe = (set & ~(zeros | ones)) == 0 && Integer.bitCount(set) <= 2;
            if (mayBe && waters.tally[0] - over == a && waters.tally[1] + over == b) {
                if (found == i) {
                    return set;
                }
                found++;
            }
        }
        return i == NONE ? found : NONE;
    }

    public int watch(int r) {
        return hasBorough() && isWithin(r, 0, FARTHEST) ? charts.fewestWatchers(r) : NONE;
    }

    public int fair(int n, int what) {
        if (!hasBorough() || !isWithin(n, 1, MOST_HOURS) || !isWithin(what, 0, 1)) {
            return NONE;
        }
        apart.copyFrom(now);
        int soonest = 0;
        int least = waters.gapOf(apart);
        for (int behind = 1; behind <= n; behind++) {
            waters.passHour(apart);
            int gap = waters.gapOf(apart);
            if (gap < least) {
                least = gap;
                soonest = behind;
            }
        }
        return what == 0 ? soonest : least;
    }

    public int buoys(int what) {
        if (!hasBorough() || !isWithin(what, 0, 1)) {
            return NONE;
        }
        int bits = 0;
        for (int buoy = 0; buoy < told.buoys; buoy++) {
            if (what == 0 ? told.chain(buoy) <= now.wind : isFaithful(buoy)) {
                bits |= 1 << buoy;
            }
        }
        return bits;
    }

    public int sways(int buoy, int what) {
        if (!isBuoy(buoy) || !isWithin(what, 0, 1)) {
            return HIDDEN;
        }
        int greatest = waters.drawOf(now, buoy, 0);
        int next = -BEYOND_ALL;
        for (int boat = 1; boat < told.boats; boat++) {
            int draw = waters.drawOf(now, buoy, boat);
            next = Math.max(next, Math.min(greatest, draw));
            greatest = Math.max(greatest, draw);
        }
        return what == 0 ? told.chain(buoy) - greatest : greatest - next;
    }

    public int nearest(int boat) {
        if (!isBoat(boat)) {
            return NONE;
        }
        int found = 0;
        int least = BEYOND_ALL;
        for (int buoy = 0; buoy < told.buoys; buoy++) {
            int away = now.awayOf(boat, told.buoyX(buoy), told.buoyY(buoy));
            if (away < least) {
                least = away;
                found = buoy;
            }
        }
        return found;
    }

    public int fog(int boat, int chance) {
        if (!isBoat(boat) || !isWithin(chance, 0, 100)) {
            return NONE;
        }
        waters.tallyUp(now);
        int ways = splitByFog(chance);
        long sum = 0;
        for (int hidden = 0; hidden < ways; hidden++) {
            if (leadsUnder(hidden, boat)) {
                sum += parts[hidden];
            }
        }
        return (int) sum;
    }

    public int needs(int boat, int buoy) {
        if (!isBoat(boat) || !isBuoy(buoy)) {
            return NONE;
        }
        apart.copyFrom(now);
        int bar = waters.barOf(apart, buoy, boat);
        for (int liking = 0; liking <= MOST_LIKING; liking++) {
            apart.liking[buoy * MOST_BOATS + boat] = liking;
            if (waters.drawOf(apart, buoy, boat) >= bar) {
                return liking;
            }
        }
        return NONE;
    }

    public int heard(int boat) {
        if (!isBoat(boat)) {
            return NONE;
        }
        int bits = 0;
        for (int buoy = 0; buoy < told.buoys; buoy++) {
            if (isBeside(now, boat, buoy)) {
                bits |= 1 << buoy;
            }
        }
        return bits;
    }

    public int middle() {
        return hasBorough() ? charts.middlePlace() : NONE;
    }

    public int image() {
        if (!hasBorough()) {
            return NONE;
        }
        history.keepImage(now);
        return now.hour;
    }

    public int back() {
        return history.showImage(now) ? now.hour : NONE;
    }

    public int count(int what) {
        switch (what) {
            case 0:
                return told.buoys;
            case 1:
                return told.boats;
            case 2:
                return laws.size;
            case 3:
                return planCount;
            case 4:
                return tape.length;
            case 5:
                return laws.holding;
            case 6:
                return now.hour;
            case 7:
                waters.tallyUp(now);
                return waters.leaningBits();
            case 8:
                return sumOf(now.barnacles, told.buoys);
            case 9:
                return sumOf(now.won, told.boats);
            case 10:
                return sightings.size;
            case 11:
                return now.logLength();
            case 12:
                return history.acts;
            default:
                return HIDDEN;
        }
    }

    private boolean hasBorough() {
        return told.buoys > 0;
    }

    private boolean isBuoy(int buoy) {
        return buoy >= 0 && buoy < told.buoys;
    }

    private boolean isBoat(int boat) {
        return boat >= 0 && boat < told.boats;
    }

    private boolean isPair(int one, int other) {
        return isBoat(one) && isBoat(other) && one != other;
    }

    private boolean isPlan(int plan) {
        return plan >= 0 && plan < planCount;
    }

    private boolean isBeside(Sea sea, int boat, int buoy) {
        return sea.awayOf(boat, told.buoyX(buoy), told.buoyY(buoy)) <= 1;
    }

    private boolean isFaithful(int buoy) {
        int lean = waters.leanOf(now, buoy);
        return lean != NONE && lean == now.old[buoy];
    }

    private boolean canRow(Sea sea, int boat, int x, int y) {
        if (!isBoat(boat) || !isWithin(x, 0, SIDE - 1) || !isWithin(y, 0, SIDE - 1)) {
            return false;
        }
        return x != sea.goalX[boat] || y != sea.goalY[boat];
    }

    private boolean canSing(Sea sea, int boat, int buoy) {
        return isBoat(boat) && isBuoy(buoy) && isBeside(sea, boat, buoy)
            && sea.liking[buoy * MOST_BOATS + boat] < MOST_LIKING;
    }

    private boolean canScrape(Sea sea, int boat, int buoy) {
        return isBoat(boat) && isBuoy(buoy) && isBeside(sea, boat, buoy) && sea.barnacles[buoy] > 0;
    }

    private boolean canPass(int n) {
        return hasBorough() && isWithin(n, 1, MOST_HOURS) && now.hour + n <= LAST_HOUR;
    }

    private boolean canDo(Sea sea, Plan steps, int i) {
        int first = steps.part(i, 1);
        int second = steps.part(i, 2);
        switch (steps.part(i, 0)) {
            case Plan.ROW:
                return canRow(sea, first, second, steps.part(i, 3));
            case Plan.SING:
                return canSing(sea, first, second);
            case Plan.SCRAPE:
                return canScrape(sea, first, second);
            default:
                return first > 0;
        }
    }

    /** Does a STEP that canDo allows and that is no HOURS. */
    private void change(Sea sea, Plan steps, int i) {
        int boat = steps.part(i, 1);
        int second = steps.part(i, 2);
        switch (steps.part(i, 0)) {
            case Plan.ROW:
                sea.goalX[boat] = second;
                sea.goalY[boat] = steps.part(i, 3);
                break;
            case Plan.SING:
                sea.singTo(boat, second);
                break;
            case Plan.SCRAPE:
                sea.barnacles[second]--;
                break;
            default:
                break;
        }
    }

    private void passApart(int n) {
        for (int i = 0; i < n; i++) {
            waters.passHour(apart);
        }
    }

    private void liveHour() {
        waters.passHour(now);
        history.note(now, waters.tally);
    }

    private int drawOutOf(int m) {
        drawn = drawn * DRAW_FACTOR + DRAW_ADDEND;
        return m > 0 ? (int) ((drawn >>> 33) % m) : 0;
    }

    private int beginBorough() {
        told.copyFrom(draft);
        now.begin(told);
        history.forget();
        sightings.size = 0;
        tape.length = 0;
        return told.buoys;
    }

    private int keepLaw() {
        if (laws.size >= MOST_TEXTS) {
            return NONE;
        }
        tape.length = 0;
        laws.size++;
        return laws.size - 1;
    }

    private int keepPlan() {
        if (planCount >= MOST_TEXTS) {
            return NONE;
        }
        tape.length = 0;
        planCount++;
        return planCount - 1;
    }

    /** Shares all parts out among the ways (bits: the BUOYS that are not seen, of those that LEAN). */
    private int splitByFog(int chance) {
        parts[0] = ALL_PARTS;
        int ways = 1;
        for (int buoy = 0; buoy < told.buoys; buoy++) {
            if (waters.leans[buoy] != NONE && 2 * ways <= parts.length) {
                for (int way = 0; way < ways; way++) {
                    long hidden = parts[way] * chance / 100;
                    parts[ways + way] = hidden;
                    parts[way] -= hidden;
                }
                ways *= 2;
            }
        }
        return ways;
    }

    private boolean leadsUnder(int hidden, int boat) {
        for (int i = 0; i < MOST_BOATS; i++) {
            shown[i] = 0;
        }
        int bit = 0;
        for (int buoy = 0; buoy < told.buoys; buoy++) {
            int lean = waters.leans[buoy];
            if (lean != NONE) {
                shown[lean] += 1 - (hidden >> bit & 1);
                bit++;
            }
        }
        for (int other = 0; other < told.boats; other++) {
            if (other != boat && shown[other] >= shown[boat]) {
                return false;
            }
        }
        return true;
    }

    private static boolean isWithin(int value, int low, int high) {
        return value >= low && value <= high;
    }

    private static int sumOf(int[] values, int length) {
        int sum = 0;
        for (int i = 0; i < length && i < values.length; i++) {
            sum += values[i];
        }
        return sum;
    }

    private static int hoursFor(int away, int speed) {
        return speed > 0 ? (away + speed - 1) / speed : 0;
    }

    /** The bytes that were fed, a reader's place among them, and the first FAULT that it met. */
    private static final class Tape {
        static final int ROOM = 240;
        private static final int BLANK = 32;

        private final int[] bytes;
        int length;
        private int at;
        private int wrong;

        Tape() {
            bytes = new int[ROOM];
            wrong = NONE;
        }

        static int bytesIn(int word) {
            int found = 0;
            for (int shift = 0; shift < 32; shift += 8) {
                if ((word >>> shift & 255) != 0) {
                    found++;
                }
            }
            return found;
        }

        void append(int word) {
            for (int shift = 24; shift >= 0; shift -= 8) {
                int value = word >>> shift & 255;
                if (value != 0 && length < ROOM) {
                    bytes[length] = value;
                    length++;
                }
            }
        }

        void rewind() {
            at = 0;
            wrong = NONE;
        }

        boolean isRight() {
            return wrong == NONE;
        }

        int wrongAt() {
            return wrong;
        }

        void refuse(int place) {
            if (wrong == NONE) {
                wrong = place;
            }
        }

        void refuseHere() {
            refuse(at);
        }

        /** The next sign that is no blank (NONE at the end); the reader stands at it then. */
        int peek() {
            while (at < length && bytes[at] == BLANK) {
                at++;
            }
            return at < length ? bytes[at] : NONE;
        }

        void skip() {
            at++;
        }

        boolean take(int sign) {
            if (wrong != NONE || peek() != sign) {
                return false;
            }
            at++;
            return true;
        }

        /** Whichever of the two stands next, or 0. */
        int takeEither(int one, int other) {
            int sign = peek();
            if (wrong != NONE || sign != one && sign != other) {
                return 0;
            }
            at++;
            return sign;
        }

        void expect(int sign) {
            if (wrong == NONE && peek() == sign) {
                at++;
            } else {
                refuse(at);
            }
        }

        void expectEnd() {
            if (peek() != NONE) {
                refuse(at);
            }
        }

        int digit() {
            int sign = peek();
            if (sign < '0' || sign > '9') {
                refuse(at);
                return 0;
            }
            at++;
            return sign - '0';
        }

        /** The number that stands here; NONE if none does or it has a digit too many, the reader being there then. */
        int number(int mostDigits) {
            int value = NONE;
            for (int digits = 0; at < length && bytes[at] >= '0' && bytes[at] <= '9'; digits++) {
                if (digits >= mostDigits) {
                    return NONE;
                }
                value = (digits == 0 ? 0 : value * 10) + bytes[at] - '0';
                at++;
            }
            return value;
        }

        int numberWithin(int low, int high) {
            peek();
            int value = number(2);
            if (value == NONE) {
                refuse(at);
            } else if (value < low || value > high) {
                refuse(at - 1);
            }
            return value;
        }
    }

    /** A BOROUGH as it was told, and the reader of its text. */
    private static final class Borough {
        private static final String KINDS = "sbc";
        private static final int RULES = 0;
        private static final int BUOY = 1;
        private static final String RULE_LETTERS = "wdth";
        private static final String BUOY_LETTERS = "xycaefor";
        private static final String BOAT_LETTERS = "xysv";
        /** Where each kind's items begin in the three rows below. */
        private static final int[] FIRST = {0, 4, 12};
        private static final int[] LOW = {0, 0, 1, 1, 0, 0, 0, 0, 0, 0, 0, 0, 0, 0, 1, 0};
        private static final int[] HIGH = {9, 3, 12, 20, 9, 9, 9, 9, 9, 9, 3, 9, 9, 9, 4, 9};
        private static final int[] USUAL = {2, 0, 6, 8, 0, 0, 3, 0, 0, 0, 3, 2, 0, 0, 2, 3};
        private static final int BUOYS_AT = 4;
        private static final int BUOY_ITEMS = 8;
        private static final int BOATS_AT = BUOYS_AT + MOST_BUOYS * BUOY_ITEMS;
        private static final int BOAT_ITEMS = 4;

        private final int[] values;
        int buoys;
        int boats;
        private boolean ruled;

        Borough() {
            values = new int[BOATS_AT + MOST_BOATS * BOAT_ITEMS];
        }

        void copyFrom(Borough other) {
            System.arraycopy(other.values, 0, values, 0, values.length);
            buoys = other.buoys;
            boats = other.boats;
        }

        int windAtFirst() {
            return values[0];
        }

        int wayAtFirst() {
            return values[1];
        }

        int tideHours() {
            return values[2];
        }

        int countHours() {
            return values[3];
        }

        int buoyX(int buoy) {
            return values[BUOYS_AT + buoy * BUOY_ITEMS];
        }

        int buoyY(int buoy) {
            return values[BUOYS_AT + buoy * BUOY_ITEMS + 1];
        }

        int chain(int buoy) {
            return values[BUOYS_AT + buoy * BUOY_ITEMS + 2];
        }

        int likingAtFirst(int buoy, int boat) {
            return values[BUOYS_AT + buoy * BUOY_ITEMS + 3 + boat];
        }

        int oldAtFirst(int buoy) {
            int vote = values[BUOYS_AT + buoy * BUOY_ITEMS + 6];
            return vote < boats ? vote : NONE;
        }

        int barnaclesAtFirst(int buoy) {
            return values[BUOYS_AT + buoy * BUOY_ITEMS + 7];
        }

        int boatX(int boat) {
            return values[BOATS_AT + boat * BOAT_ITEMS];
        }

        int boatY(int boat) {
            return values[BOATS_AT + boat * BOAT_ITEMS + 1];
        }

        int speed(int boat) {
            return values[BOATS_AT + boat * BOAT_ITEMS + 2];
        }

        int voice(int boat) {
            return values[BOATS_AT + boat * BOAT_ITEMS + 3];
        }

        int faultOf(Tape tape) {
            buoys = 0;
            boats = 0;
            ruled = false;
            setUsual(RULES, 0);
            tape.rewind();
            for (int i = 0; i < Tape.ROOM; i++) {
                readClause(tape);
                if (!tape.take(';')) {
                    break;
                }
            }
            tape.expectEnd();
            if (tape.isRight() && !isWhole()) {
                tape.refuse(tape.length);
            }
            return tape.wrongAt();
        }

        private void readClause(Tape tape) {
            int kind = placeIn(KINDS, tape.peek());
            if (kind < 0 || !hasRoomFor(kind)) {
                tape.refuseHere();
                return;
            }
            tape.skip();
            int base = beginClause(kind);
            String letters = lettersOf(kind);
            int told = 0;
            for (int i = 0; i <= letters.length() && tape.isRight(); i++) {
                int item = placeIn(letters, tape.peek());
                if (item < 0) {
                    return;
                }
                if ((told >> item & 1) != 0) {
                    tape.refuseHere();
                    return;
                }
                told |= 1 << item;
                tape.skip();
                values[base + item] = tape.numberWithin(LOW[FIRST[kind] + item], HIGH[FIRST[kind] + item]);
            }
        }

        private boolean hasRoomFor(int kind) {
            if (kind == RULES) {
                return !ruled;
            }
            return kind == BUOY ? buoys < MOST_BUOYS : boats < MOST_BOATS;
        }

        /** Counts the CLAUSE, sets what holds without a word, and answers where its values begin. */
        private int beginClause(int kind) {
            int base = 0;
            if (kind == RULES) {
                ruled = true;
            } else if (kind == BUOY) {
                base = BUOYS_AT + buoys * BUOY_ITEMS;
                buoys++;
            } else {
                base = BOATS_AT + boats * BOAT_ITEMS;
                boats++;
            }
            setUsual(kind, base);
            return base;
        }

        private void setUsual(int kind, int base) {
            int items = lettersOf(kind).length();
            for (int i = 0; i < items; i++) {
                values[base + i] = USUAL[FIRST[kind] + i];
            }
        }

        private boolean isWhole() {
            if (buoys < 1 || boats < 2) {
                return false;
            }
            for (int one = 0; one < buoys; one++) {
                for (int other = 0; other < one; other++) {
                    if (buoyX(one) == buoyX(other) && buoyY(one) == buoyY(other)) {
                        return false;
                    }
                }
            }
            return true;
        }

        private static String lettersOf(int kind) {
            if (kind == RULES) {
                return RULE_LETTERS;
            }
            return kind == BUOY ? BUOY_LETTERS : BOAT_LETTERS;
        }

        private static int placeIn(String letters, int sign) {
            return sign < 0 ? NONE : letters.indexOf((char) sign);
        }
    }

    /**
     * A LAW as code for a stack, and the reader of its text. A cell is a number, or -1 .. -6 for a letter, or a sign
     * less than that, negated: ? ends a CONDITION, ; a CLAUSE, the others join what stands on the stack.
     */
    private static final class Law {
        private static final String LETTERS = "vlrdph";
        private static final int LETTER_COUNT = 6;
        private static final int DEEPEST = 6;
        private static final int BOUND = 1000000;
        private static final int MOST_DIGITS = 4;
        /** Each ( or [ that is open leaves at most three values below it. */
        private static final int STACK_ROOM = 64;

        private final int[] code;
        private int length;
        private final int[] stack;

        Law() {
            // No byte of a text makes more than one cell, and the y of a CLAUSE makes room for its end.
            code = new int[Tape.ROOM];
            stack = new int[STACK_ROOM];
        }

        int worth(int[] letters) {
            int top = 0;
            boolean passing = false;
            for (int i = 0; i < length; i++) {
                int sign = -code[i];
                if (sign == ';') {
                    if (!passing && top > 0) {
                        return stack[0];
                    }
                    passing = false;
                } else if (!passing && sign == '?') {
                    passing = stack[0] == 0;
                    top = 0;
                } else if (!passing && sign > LETTER_COUNT) {
                    top = joinedAt(sign, top);
                } else if (!passing && top < STACK_ROOM) {
                    stack[top] = sign > 0 ? letters[sign - 1] : -sign;
                    top++;
                }
            }
            return 0;
        }

        /** Joins the values on top of the stack by a sign: the new top. */
        private int joinedAt(int sign, int top) {
            if (top < 1 || top < 2 && sign != '!') {
                return top;
            }
            if (sign == '!') {
                stack[top - 1] = 1 - stack[top - 1];
                return top;
            }
            int left = stack[top - 2];
            int right = stack[top - 1];
            long value;
            switch (sign) {
                case '+':
                    value = left + right;
                    break;
                case '-':
                    value = left - right;
                    break;
                case '*':
                    value = (long) left * right;
                    break;
                case '/':
                    value = right == 0 ? 0 : left / right;
                    break;
                case '=':
                    value = left == right ? 1 : 0;
                    break;
                case '<':
                    value = left < right ? 1 : 0;
                    break;
                case '>':
                    value = left > right ? 1 : 0;
                    break;
                case '&':
                    value = left & right;
                    break;
                default:
                    value = left | right;
                    break;
            }
            stack[top - 2] = value > BOUND ? BOUND : value < -BOUND ? -BOUND : (int) value;
            return top - 1;
        }

        int faultOf(Tape tape) {
            length = 0;
            tape.rewind();
            for (int i = 0; i < Tape.ROOM; i++) {
                tape.expect('y');
                tape.expect(':');
                boolean begun = !startsUnit(tape.peek());
                if (begun) {
                    readSum(tape, 0);
                }
                if (!begun || isComparison(tape.peek())) {
                    readCondition(tape, 0, begun);
                    tape.expect('?');
                    emit(-'?');
                    readSum(tape, 0);
                }
                emit(-';');
                if (!tape.take(';')) {
                    break;
                }
            }
            tape.expectEnd();
            return tape.wrongAt();
        }

        /** Of a CONDITION that is begun the first SUM has been read. */
        private void readCondition(Tape tape, int depth, boolean begun) {
            boolean both = false;
            boolean either = false;
            for (int i = 0; i < Tape.ROOM && tape.isRight(); i++) {
                readUnit(tape, depth, begun && i == 0);
                if (both) {
                    emit(-'&');
                }
                both = tape.take('&');
                if (!both) {
                    if (either) {
                        emit(-'|');
                    }
                    either = tape.take('|');
                    if (!either) {
                        return;
                    }
                }
            }
        }

        private void readUnit(Tape tape, int depth, boolean begun) {
            if (begun || !startsUnit(tape.peek())) {
                if (!begun) {
                    readSum(tape, depth);
                }
                int sign = tape.peek();
                if (isComparison(sign)) {
                    tape.skip();
                    readSum(tape, depth);
                    emit(-sign);
                } else {
                    tape.refuseHere();
                }
            } else if (depth >= DEEPEST) {
                tape.refuseHere();
            } else if (tape.take('!')) {
                readUnit(tape, depth + 1, false);
                emit(-'!');
            } else {
                tape.expect('(');
                readCondition(tape, depth + 1, false);
                tape.expect(')');
            }
        }

        private void readSum(Tape tape, int depth) {
            int scaling = 0;
            int adding = 0;
            for (int i = 0; i < Tape.ROOM && tape.isRight(); i++) {
                readAtom(tape, depth);
                if (scaling != 0) {
                    emit(-scaling);
                }
                scaling = tape.takeEither('*', '/');
                if (scaling == 0) {
                    if (adding != 0) {
                        emit(-adding);
                    }
                    adding = tape.takeEither('+', '-');
                    if (adding == 0) {
                        return;
                    }
                }
            }
        }

        private void readAtom(Tape tape, int depth) {
            int sign = tape.peek();
            int letter = sign < 0 ? NONE : LETTERS.indexOf((char) sign);
            if (letter >= 0) {
                tape.skip();
                emit(-1 - letter);
            } else if (sign != '[') {
                int value = tape.number(MOST_DIGITS);
                if (value == NONE) {
                    tape.refuseHere();
                }
                emit(value);
            } else if (depth >= DEEPEST) {
                tape.refuseHere();
            } else {
                tape.skip();
                readSum(tape, depth + 1);
                tape.expect(']');
            }
        }

        private void emit(int cell) {
            if (length < code.length) {
                code[length] = cell;
                length++;
            }
        }

        private static boolean startsUnit(int sign) {
            return sign == '!' || sign == '(';
        }

        private static boolean isComparison(int sign) {
            return sign == '=' || sign == '<' || sign == '>';
        }
    }

    /** The LAWS, which of them holds, and DRAW by it. */
    private static final class LawBook {
        private static final int MOST_DRAW = 99;

        /** One more than may be kept: the first behind those that are kept is where a text is read. */
        private final Law[] laws;
        int size;
        int holding;
        private final int[] letters;

        LawBook() {
            laws = new Law[MOST_TEXTS + 1];
            for (int i = 0; i < laws.length; i++) {
                laws[i] = new Law();
            }
            holding = NONE;
            letters = new int[6];
        }

        Law spare() {
            return laws[size];
        }

        int drawBy(int voice, int liking, int barnacles, int away, int push, int hour) {
            if (holding < 0 || holding >= size) {
                return voice + liking + barnacles + push - away;
            }
            letters[0] = voice;
            letters[1] = liking;
            letters[2] = barnacles;
            letters[3] = away;
            letters[4] = push;
            letters[5] = hour;
            int worth = laws[holding].worth(letters);
            return worth > MOST_DRAW ? MOST_DRAW : worth < -MOST_DRAW ? -MOST_DRAW : worth;
        }
    }

    /** A PLAN's STEPS, four cells each (what, then its digits, NONE for those it has not), and their reader. */
    private static final class Plan {
        static final int ROW = 0;
        static final int SING = 1;
        static final int SCRAPE = 2;
        static final int HOURS = 3;
        private static final String KINDS = "gsch";
        private static final int[] DIGITS = {3, 2, 2, 1};
        private static final int MOST_STEPS = 16;
        private static final int CELLS = 4;

        private final int[] cells;
        int steps;

        Plan() {
            cells = new int[MOST_STEPS * CELLS];
        }

        int part(int i, int what) {
            return cells[i * CELLS + what];
        }

        int faultOf(Tape tape) {
            steps = 0;
            tape.rewind();
            for (int i = 0; i < MOST_STEPS; i++) {
                readStep(tape, i);
                if (i == MOST_STEPS - 1 || !tape.take(';')) {
                    break;
                }
            }
            tape.expectEnd();
            return tape.wrongAt();
        }

        private void readStep(Tape tape, int i) {
            int sign = tape.peek();
            int kind = sign < 0 ? NONE : KINDS.indexOf((char) sign);
            if (kind < 0) {
                tape.refuseHere();
                return;
            }
            tape.skip();
            cells[i * CELLS] = kind;
            for (int digit = 1; digit < CELLS; digit++) {
                cells[i * CELLS + digit] = digit <= DIGITS[kind] && tape.isRight() ? tape.digit() : NONE;
            }
            steps = i + 1;
        }
    }

    /** All that ACTS change in a BOROUGH. */
    private static final class Sea {
        int wind;
        int way;
        int hour;
        /** How many HOURS were ever put in the LOG; it shows the latest of them. */
        int logged;
        final int[] x;
        final int[] y;
        final int[] goalX;
        final int[] goalY;
        final int[] won;
        final int[] sang;
        /** By BUOYS, of each the BOATS'. */
        final int[] liking;
        final int[] old;
        final int[] barnacles;

        Sea() {
            x = new int[MOST_BOATS];
            y = new int[MOST_BOATS];
            goalX = new int[MOST_BOATS];
            goalY = new int[MOST_BOATS];
            won = new int[MOST_BOATS];
            sang = new int[MOST_BOATS];
            liking = new int[MOST_BUOYS * MOST_BOATS];
            old = new int[MOST_BUOYS];
            barnacles = new int[MOST_BUOYS];
        }

        void begin(Borough told) {
            wind = told.windAtFirst();
            way = told.wayAtFirst();
            hour = 0;
            logged = 0;
            for (int boat = 0; boat < told.boats; boat++) {
                put(boat, told.boatX(boat), told.boatY(boat));
                goalX[boat] = x[boat];
                goalY[boat] = y[boat];
                won[boat] = 0;
                sang[boat] = 0;
            }
            for (int buoy = 0; buoy < told.buoys; buoy++) {
                for (int boat = 0; boat < MOST_BOATS; boat++) {
                    liking[buoy * MOST_BOATS + boat] = told.likingAtFirst(buoy, boat);
                }
                old[buoy] = told.oldAtFirst(buoy);
                barnacles[buoy] = told.barnaclesAtFirst(buoy);
            }
        }

        void copyFrom(Sea other) {
            wind = other.wind;
            way = other.way;
            hour = other.hour;
            logged = other.logged;
            System.arraycopy(other.x, 0, x, 0, MOST_BOATS);
            System.arraycopy(other.y, 0, y, 0, MOST_BOATS);
            System.arraycopy(other.goalX, 0, goalX, 0, MOST_BOATS);
            System.arraycopy(other.goalY, 0, goalY, 0, MOST_BOATS);
            System.arraycopy(other.won, 0, won, 0, MOST_BOATS);
            System.arraycopy(other.sang, 0, sang, 0, MOST_BOATS);
            System.arraycopy(other.liking, 0, liking, 0, MOST_BUOYS * MOST_BOATS);
            System.arraycopy(other.old, 0, old, 0, MOST_BUOYS);
            System.arraycopy(other.barnacles, 0, barnacles, 0, MOST_BUOYS);
        }

        int logLength() {
            return Math.min(logged, MOST_LOGGED);
        }

        int awayOf(int boat, int toX, int toY) {
            return Math.abs(x[boat] - toX) + Math.abs(y[boat] - toY);
        }

        void put(int boat, int toX, int toY) {
            x[boat] = toX;
            y[boat] = toY;
        }

        void singTo(int boat, int buoy) {
            liking[buoy * MOST_BOATS + boat]++;
            sang[boat]++;
        }

        void rowOn(int boat, int speed) {
            int along = goalX[boat] - x[boat];
            int columns = Math.min(speed, Math.abs(along));
            x[boat] += along < 0 ? -columns : columns;
            int down = goalY[boat] - y[boat];
            int rows = Math.min(speed - columns, Math.abs(down));
            y[boat] += down < 0 ? -rows : rows;
        }
    }

    /** What wind, tide and the LAW make of a Sea: PUSH, DRAW, who LEANS, and how an HOUR goes by. */
    private static final class Waters {
        private final Borough told;
        private final LawBook laws;
        final int[] draws;
        /** As tallyUp found them: the BOAT to which each BUOY LEANS, and how many LEAN to each BOAT. */
        final int[] leans;
        final int[] tally;
        private final int[] bars;

        Waters(Borough told, LawBook laws) {
            this.told = told;
            this.laws = laws;
            draws = new int[MOST_BOATS];
            leans = new int[MOST_BUOYS];
            tally = new int[MOST_BOATS];
            bars = new int[MOST_BUOYS];
        }

        boolean isRising(int hour) {
            int rising = told.tideHours();
            return rising > 0 && hour % (2 * rising) < rising;
        }

        int pushOf(Sea sea, int buoy, int boat) {
            int right = sea.x[boat] - told.buoyX(buoy);
            int down = sea.y[boat] - told.buoyY(buoy);
            int across = sea.way % 2 == 0 ? right : down;
            int along = sea.way < 2 ? across : -across;
            int push = along > 0 ? sea.wind : along < 0 ? -sea.wind : 0;
            boolean byTide = isRising(sea.hour) ? right > 0 : right < 0;
            return byTide ? push + 1 : push;
        }

        int drawOf(Sea sea, int buoy, int boat) {
            int liking = sea.liking[buoy * MOST_BOATS + boat];
            int barnacles = sea.old[buoy] == boat ? sea.barnacles[buoy] : 0;
            int away = sea.awayOf(boat, told.buoyX(buoy), told.buoyY(buoy));
            return laws.drawBy(told.voice(boat), liking, barnacles, away, pushOf(sea, buoy, boat), sea.hour);
        }

        int leanOf(Sea sea, int buoy) {
            for (int boat = 0; boat < told.boats; boat++) {
                draws[boat] = drawOf(sea, buoy, boat);
            }
            return leanBy(told.chain(buoy));
        }

        /** The BOAT to which a BUOY with that CHAIN LEANS by draws. */
        int leanBy(int chain) {
            int greatest = 0;
            boolean alone = true;
            for (int boat = 1; boat < told.boats; boat++) {
                if (draws[boat] > draws[greatest]) {
                    greatest = boat;
                    alone = true;
                } else if (draws[boat] == draws[greatest]) {
                    alone = false;
                }
            }
            return alone && draws[greatest] >= chain ? greatest : NONE;
        }

        void tallyUp(Sea sea) {
            for (int boat = 0; boat < MOST_BOATS; boat++) {
                tally[boat] = 0;
            }
            for (int buoy = 0; buoy < told.buoys; buoy++) {
                for (int boat = 0; boat < told.boats; boat++) {
                    draws[boat] = drawOf(sea, buoy, boat);
                }
                leans[buoy] = leanBy(told.chain(buoy));
                if (leans[buoy] != NONE) {
                    tally[leans[buoy]]++;
                }
            }
        }

        /** The BOAT to which most LEAN by the tally, if it is one alone. */
        int winner() {
            int most = 0;
            int winner = NONE;
            for (int boat = 0; boat < told.boats; boat++) {
                if (tally[boat] > most) {
                    most = tally[boat];
                    winner = boat;
                } else if (tally[boat] == most) {
                    winner = NONE;
                }
            }
            return winner;
        }

        int leaningTo(int boat) {
            int bits = 0;
            for (int buoy = 0; buoy < told.buoys; buoy++) {
                if (leans[buoy] == boat) {
                    bits |= 1 << buoy;
                }
            }
            return bits;
        }

        int leaningBits() {
            return (1 << told.buoys) - 1 & ~leaningTo(NONE);
        }

        int gapOf(Sea sea) {
            tallyUp(sea);
            return Math.abs(tally[0] - tally[1]);
        }

        /** Leaves the tally as it was ahead of the COUNT. */
        void passHour(Sea sea) {
            for (int boat = 0; boat < told.boats; boat++) {
                sea.rowOn(boat, told.speed(boat));
            }
            sea.hour++;
            tallyUp(sea);
            int between = told.countHours();
            if (between > 0 && sea.hour % between == 0) {
                holdCount(sea);
            }
        }

        private void holdCount(Sea sea) {
            int winner = winner();
            if (winner != NONE) {
                sea.won[winner]++;
            }
            for (int buoy = 0; buoy < told.buoys; buoy++) {
                int lean = leans[buoy];
                if (lean != NONE && lean == sea.old[buoy]) {
                    sea.barnacles[buoy] = Math.min(sea.barnacles[buoy] + 1, MOST_BARNACLES);
                } else if (lean != NONE) {
                    sea.old[buoy] = lean;
                    sea.barnacles[buoy] = 1;
                }
            }
        }

        /** The least DRAW by which the BUOY LEANS to the BOAT, the others being as they are. */
        int barOf(Sea sea, int buoy, int boat) {
            int bar = told.chain(buoy);
            for (int other = 0; other < told.boats; other++) {
                if (other != boat) {
                    bar = Math.max(bar, drawOf(sea, buoy, other) + 1);
                }
            }
            return bar;
        }

        void setBars(Sea sea, int boat) {
            for (int buoy = 0; buoy < told.buoys; buoy++) {
                bars[buoy] = barOf(sea, buoy, boat);
            }
        }

        int overBars(Sea sea, int boat) {
            int over = 0;
            for (int buoy = 0; buoy < told.buoys; buoy++) {
                if (drawOf(sea, buoy, boat) >= bars[buoy]) {
                    over++;
                }
            }
            return over;
        }
    }

    /** ACTS that can be UNDONE, the LOG, and the IMAGE. */
    private static final class History {
        private static final int MOST_ACTS = 40;
        /** What may be UNDONE is kept behind what the LOG shows. */
        private static final int LOG_ROOM = MOST_LOGGED + MOST_ACTS;

        private final Sea[] before;
        private int next;
        int acts;
        private final int[] log;
        private final Sea image;
        private final int[] imageLog;
        private boolean imaged;

        History() {
            before = new Sea[MOST_ACTS];
            for (int i = 0; i < MOST_ACTS; i++) {
                before[i] = new Sea();
            }
            log = new int[LOG_ROOM * MOST_BOATS];
            image = new Sea();
            imageLog = new int[LOG_ROOM * MOST_BOATS];
        }

        void forget() {
            next = 0;
            acts = 0;
            imaged = false;
        }

        void remember(Sea now) {
            before[next].copyFrom(now);
            next = (next + 1) % MOST_ACTS;
            acts = Math.min(acts + 1, MOST_ACTS);
        }

        boolean takeBack(Sea now) {
            if (acts == 0) {
                return false;
            }
            acts--;
            next = (next + MOST_ACTS - 1) % MOST_ACTS;
            now.copyFrom(before[next]);
            return true;
        }

        void note(Sea now, int[] tally) {
            System.arraycopy(tally, 0, log, now.logged % LOG_ROOM * MOST_BOATS, MOST_BOATS);
            now.logged++;
        }

        int logged(int number, int boat) {
            return log[number % LOG_ROOM * MOST_BOATS + boat];
        }

        void keepImage(Sea now) {
            image.copyFrom(now);
            System.arraycopy(log, 0, imageLog, 0, log.length);
            imaged = true;
        }

        boolean showImage(Sea now) {
            if (!imaged) {
                return false;
            }
            now.copyFrom(image);
            System.arraycopy(imageLog, 0, log, 0, log.length);
            acts = 0;
            return true;
        }
    }

    /** What was SEEN, and the LIKINGS of BOATS 0 and 1 (10 times the one and the other) that fit it. */
    private static final class Sightings {
        private static final int MOST = 10;
        private static final int LIKINGS = 10;
        private static final int LOOKS = 10;
        private static final int LOOK_E = 3;
        private static final int ANSWERS = 3;

        private final Borough told;
        private final LawBook laws;
        private final int[] seenBuoy;
        private final int[] seenD;
        private final int[] seenE;
        private final int[] seenTo;
        int size;
        private final int[] fits;
        private int fitCount;
        private final int[] oneDraws;
        private final int[] otherDraws;
        private final int[] answers;

        Sightings(Borough told, LawBook laws) {
            this.told = told;
            this.laws = laws;
            seenBuoy = new int[MOST];
            seenD = new int[MOST];
            seenE = new int[MOST];
            seenTo = new int[MOST];
            fits = new int[LIKINGS * LIKINGS];
            oneDraws = new int[LIKINGS];
            otherDraws = new int[LIKINGS];
            answers = new int[ANSWERS];
        }

        boolean add(int buoy, int d, int e, int to) {
            if (size >= MOST) {
                return false;
            }
            seenBuoy[size] = buoy;
            seenD[size] = d;
            seenE[size] = e;
            seenTo[size] = to;
            size++;
            return true;
        }

        /** Finds the pairs of LIKINGS that fit: how many. */
        int fit(int buoy) {
            fitCount = LIKINGS * LIKINGS;
            for (int pair = 0; pair < fitCount; pair++) {
                fits[pair] = pair;
            }
            for (int i = 0; i < size; i++) {
                if (seenBuoy[i] == buoy) {
                    setDraws(seenD[i], seenE[i]);
                    keepThose(told.chain(buoy), seenTo[i]);
                }
            }
            return fitCount;
        }

        int fitting(int i) {
            return fits[i];
        }

        int bestLook(int buoy) {
            int best = 0;
            int fewest = BEYOND_ALL;
            for (int d = 0; d < LOOKS; d++) {
                setDraws(d, LOOK_E);
                int most = mostAlike(told.chain(buoy));
                if (most < fewest) {
                    fewest = most;
                    best = d;
                }
            }
            return best;
        }

        private int mostAlike(int chain) {
            for (int answer = 0; answer < ANSWERS; answer++) {
                answers[answer] = 0;
            }
            for (int i = 0; i < fitCount; i++) {
                answers[answerOf(fits[i], chain)]++;
            }
            return Math.max(answers[0], Math.max(answers[1], answers[2]));
        }

        private void keepThose(int chain, int to) {
            int kept = 0;
            for (int i = 0; i < fitCount; i++) {
                if (answerOf(fits[i], chain) == to) {
                    fits[kept] = fits[i];
                    kept++;
                }
            }
            fitCount = kept;
        }

        private void setDraws(int d, int e) {
            for (int liking = 0; liking < LIKINGS; liking++) {
                oneDraws[liking] = laws.drawBy(told.voice(0), liking, 0, d, 0, 0);
                otherDraws[liking] = laws.drawBy(told.voice(1), liking, 0, e, 0, 0);
            }
        }

        private int answerOf(int pair, int chain) {
            int one = oneDraws[pair / LIKINGS];
            int other = otherDraws[pair % LIKINGS];
            if (one == other || Math.max(one, other) < chain) {
                return 2;
            }
            return one > other ? 0 : 1;
        }
    }

    /** How many LEAN to two BOATS, wherever each of them is at a BUOY. */
    private static final class Duel {
        private final Borough told;
        private final Waters waters;
        /** By the places of a BOAT, of each the BUOYS': DRAW. */
        private final int[] oneDraws;
        private final int[] otherDraws;
        /** By the places of the one, of each those of the other: how many LEAN. */
        private final int[] ones;
        private final int[] others;

        Duel(Borough told, Waters waters) {
            this.told = told;
            this.waters = waters;
            oneDraws = new int[MOST_BUOYS * MOST_BUOYS];
            otherDraws = new int[MOST_BUOYS * MOST_BUOYS];
            ones = new int[MOST_BUOYS * MOST_BUOYS];
            others = new int[MOST_BUOYS * MOST_BUOYS];
        }

        /** Moves the two BOATS about in the Sea that it is given. */
        void lay(Sea sea, int one, int other) {
            setDraws(sea, one, oneDraws);
            setDraws(sea, other, otherDraws);
            for (int cell = 0; cell < ones.length; cell++) {
                ones[cell] = 0;
                others[cell] = 0;
            }
            for (int buoy = 0; buoy < told.buoys; buoy++) {
                // The draws of a third BOAT stay for all places of the two.
                waters.leanOf(sea, buoy);
                for (int x = 0; x < told.buoys; x++) {
                    for (int y = 0; y < told.buoys; y++) {
                        waters.draws[one] = oneDraws[x * MOST_BUOYS + buoy];
                        waters.draws[other] = otherDraws[y * MOST_BUOYS + buoy];
                        int lean = waters.leanBy(told.chain(buoy));
                        ones[x * MOST_BUOYS + y] += lean == one ? 1 : 0;
                        others[x * MOST_BUOYS + y] += lean == other ? 1 : 0;
                    }
                }
            }
        }

        private void setDraws(Sea sea, int boat, int[] into) {
            for (int place = 0; place < told.buoys; place++) {
                sea.put(boat, told.buoyX(place), told.buoyY(place));
                for (int buoy = 0; buoy < told.buoys; buoy++) {
                    into[place * MOST_BUOYS + buoy] = waters.drawOf(sea, buoy, boat);
                }
            }
        }

        boolean isAtRest(int x, int y) {
            int at = x * MOST_BUOYS + y;
            for (int place = 0; place < told.buoys; place++) {
                if (ones[place * MOST_BUOYS + y] > ones[at] || others[x * MOST_BUOYS + place] > others[at]) {
                    return false;
                }
            }
            return true;
        }

        /** How many more LEAN to the one at that BUOY than to the other at the worst place for the one. */
        int worstAt(int x) {
            int worst = MOST_BUOYS;
            for (int y = 0; y < told.buoys; y++) {
                worst = Math.min(worst, ones[x * MOST_BUOYS + y] - others[x * MOST_BUOYS + y]);
            }
            return worst;
        }
    }

    /** Ways and places by AWAY alone: ROUND, WATCH, MIDDLE. */
    private static final class Charts {
        private final Borough told;
        /** HOURS from the BOAT to each BUOY, and from BUOY to BUOY. */
        private final int[] firstLegs;
        private final int[] legs;
        /** By sets, of each the BUOYS: the least HOURS from that BUOY through the set. */
        private final int[] through;

        Charts(Borough told) {
            this.told = told;
            firstLegs = new int[MOST_BUOYS];
            legs = new int[MOST_BUOYS * MOST_BUOYS];
            through = new int[(1 << MOST_BUOYS) * MOST_BUOYS];
        }

        void plot(Sea sea, int boat, int buoys) {
            int speed = told.speed(boat);
            for (int to = 0; to < told.buoys; to++) {
                firstLegs[to] = hoursFor(sea.awayOf(boat, told.buoyX(to), told.buoyY(to)), speed);
                for (int from = 0; from < told.buoys; from++) {
                    legs[from * MOST_BUOYS + to] = hoursFor(between(from, told.buoyX(to), told.buoyY(to)), speed);
                }
            }
            for (int set = 0; set <= buoys; set++) {
                if ((set & ~buoys) == 0) {
                    for (int from = 0; from < told.buoys; from++) {
                        through[set * MOST_BUOYS + from] = leastThrough(set, legs, from * MOST_BUOYS);
                    }
                }
            }
        }

        int hoursOf(int buoys) {
            return leastThrough(buoys, firstLegs, 0);
        }

        int orderOf(int buoys) {
            int order = 0;
            int left = buoys;
            int[] ways = firstLegs;
            int base = 0;
            for (int i = 0; i < told.buoys && left != 0; i++) {
                int next = firstOfBest(left, ways, base);
                order = order * 10 + next;
                left &= ~(1 << next);
                ways = legs;
                base = next * MOST_BUOYS;
            }
            return order;
        }

        /** The least HOURS through a set, the way to each BUOY of it being told in ways from base on. */
        private int leastThrough(int set, int[] ways, int base) {
            if (set == 0) {
                return 0;
            }
            int next = firstOfBest(set, ways, base);
            return ways[base + next] + through[(set & ~(1 << next)) * MOST_BUOYS + next];
        }

        private int firstOfBest(int set, int[] ways, int base) {
            int least = BEYOND_ALL;
            int best = 0;
            for (int next = 0; next < told.buoys; next++) {
                if ((set >> next & 1) != 0) {
                    int hours = ways[base + next] + through[(set & ~(1 << next)) * MOST_BUOYS + next];
                    if (hours < least) {
                        least = hours;
                        best = next;
                    }
                }
            }
            return best;
        }

        private int between(int buoy, int x, int y) {
            return Math.abs(told.buoyX(buoy) - x) + Math.abs(told.buoyY(buoy) - y);
        }

        int fewestWatchers(int r) {
            int best = (1 << told.buoys) - 1;
            for (int set = 1; set < 1 << told.buoys; set++) {
                boolean fewer = Integer.bitCount(set) < Integer.bitCount(best);
                boolean lower = Integer.bitCount(set) == Integer.bitCount(best) && set < best;
                if ((fewer || lower) && isWatched(set, r)) {
                    best = set;
                }
            }
            return best;
        }

        private boolean isWatched(int set, int r) {
            for (int buoy = 0; buoy < told.buoys; buoy++) {
                boolean watched = false;
                for (int watcher = 0; watcher < told.buoys && !watched; watcher++) {
                    watched = (set >> watcher & 1) != 0
                        && between(watcher, told.buoyX(buoy), told.buoyY(buoy)) <= r;
                }
                if (!watched) {
                    return false;
                }
            }
            return true;
        }

        int middlePlace() {
            int best = 0;
            int least = BEYOND_ALL;
            for (int at = 0; at < SIDE * SIDE; at++) {
                int sum = 0;
                for (int buoy = 0; buoy < told.buoys; buoy++) {
                    sum += between(buoy, at % SIDE, at / SIDE);
                }
                if (sum < least) {
                    least = sum;
                    best = at;
                }
            }
            return best;
        }
    }
}
