/** Promises 6 to 8, 10 to 19, 21, 22, 46 to 48: what acts on a BOROUGH, what can be UNDONE, IMAGES. */
public final class ActsTest {
    private static final int NONE = BuoyVote.NONE;
    private static final int HIDDEN = BuoyVote.HIDDEN;
    private static final Checks CHECKS = new Checks();

    public static void main(String[] args) {
        push();
        tide();
        pull();
        row();
        rowing();
        sing();
        scrape();
        wind();
        hours();
        lastHour();
        counting();
        barnacles();
        years();
        undo();
        undoneLog();
        log();
        run();
        perform();
        performAtTheEnd();
        image();
        counts();
        CHECKS.finish();
    }

    private static void push() {
        BuoyVote vote = CHECKS.borough("sw4d0t2;bx5y5;cx7y5;cx5y3;cx3y6");
        CHECKS.all("right", pushes(vote), 5, 0, -4);
        vote.wind(4, 1);
        CHECKS.all("down", pushes(vote), 1, -4, 4);
        vote.wind(4, 2);
        CHECKS.all("left", pushes(vote), -3, 0, 4);
        vote.wind(4, 3);
        CHECKS.all("up", pushes(vote), 1, 4, -4);
        vote.wind(0, 3);
        CHECKS.all("no WIND", pushes(vote), 1, 0, 0);
        vote.hours(2);
        CHECKS.all("no WIND at ebb", pushes(vote), 0, 0, 1);
        CHECKS.due("push(1, 0)", vote.push(1, 0), HIDDEN);
        CHECKS.due("push(-1, 0)", vote.push(-1, 0), HIDDEN);
        CHECKS.due("push(0, 3)", vote.push(0, 3), HIDDEN);
        CHECKS.due("push(0, -1)", vote.push(0, -1), HIDDEN);
    }

    private static long[] pushes(BuoyVote vote) {
        return new long[] {vote.push(0, 0), vote.push(0, 1), vote.push(0, 2)};
    }

    private static void tide() {
        BuoyVote vote = CHECKS.borough("st3;b;c;c");
        int[] rises = {1, 1, 1, 0, 0, 0, 1, 1, 1, 0};
        for (int hour = 0; hour < rises.length; hour++) {
            CHECKS.due("rule(4) in HOUR " + hour, vote.rule(4), rises[hour]);
            vote.hours(1);
        }
        vote = CHECKS.borough("st1;b;c;c");
        CHECKS.due("rule(4), t 1", vote.rule(4), 1);
        vote.hours(1);
        CHECKS.due("rule(4) an HOUR later, t 1", vote.rule(4), 0);
    }

    private static void pull() {
        // BOAT 0: 5 + 2 + 3 (OLD) + 4 + 1 - 3; BOAT 1: 9 + 6 + 0 - 4 - 4.
        BuoyVote vote = CHECKS.borough("sw4;bx5y5a2e6o0r3c8;cx7y6v5;cx2y4v9");
        CHECKS.due("pull(0, 0)", vote.pull(0, 0), 12);
        CHECKS.due("pull(0, 1)", vote.pull(0, 1), 7);
        CHECKS.due("buoy(0, 8)", vote.buoy(0, 8), 0);
        CHECKS.due("pull(1, 0)", vote.pull(1, 0), HIDDEN);
        CHECKS.due("pull(-1, 0)", vote.pull(-1, 0), HIDDEN);
        CHECKS.due("pull(0, 2)", vote.pull(0, 2), HIDDEN);
        CHECKS.due("pull(0, -1)", vote.pull(0, -1), HIDDEN);
        // A DRAW as great as the CHAIN is enough, one less is not; two alike leave it upright.
        CHECKS.due("LEANS by CHAIN", CHECKS.borough("bc3;cv3;cv2").buoy(0, 8), 0);
        CHECKS.due("CHAIN too much", CHECKS.borough("bc4;cv3;cv2").buoy(0, 8), NONE);
        CHECKS.due("two alike", CHECKS.borough("bc0;cv3;cv3;cv2").buoy(0, 8), NONE);
        CHECKS.due("two less alike", CHECKS.borough("bc0;cv2;cv2;cv3").buoy(0, 8), 2);
        // A LIKING of a BOAT that is not told counts for nothing, and an OLD vote for it is none.
        vote = CHECKS.borough("bf9o2r9;c;cv4");
        CHECKS.due("without BOAT 2", vote.buoy(0, 8), 1);
        CHECKS.due("OLD vote for BOAT 2", vote.buoy(0, 6), NONE);
    }

    private static void row() {
        BuoyVote vote = CHECKS.borough("b;cx1y1s3;cs4");
        CHECKS.due("row(0, 1, 1)", vote.row(0, 1, 1), NONE);
        CHECKS.due("row(0, 9, 9)", vote.row(0, 9, 9), 6);
        CHECKS.due("row(0, 9, 9) again", vote.row(0, 9, 9), NONE);
        CHECKS.due("row(0, 9, 0)", vote.row(0, 9, 0), 3);
        CHECKS.due("row(0, 1, 1) back", vote.row(0, 1, 1), 0);
        CHECKS.due("row(1, 0, 4)", vote.row(1, 0, 4), 1);
        CHECKS.due("row(1, 0, 5)", vote.row(1, 0, 5), 2);
        CHECKS.due("row(2, 0, 0)", vote.row(2, 0, 0), NONE);
        CHECKS.due("row(-1, 0, 0)", vote.row(-1, 0, 0), NONE);
        CHECKS.due("row(0, 10, 0)", vote.row(0, 10, 0), NONE);
        CHECKS.due("row(0, -1, 0)", vote.row(0, -1, 0), NONE);
        CHECKS.due("row(0, 0, 10)", vote.row(0, 0, 10), NONE);
        CHECKS.due("row(0, 0, -1)", vote.row(0, 0, -1), NONE);
        CHECKS.due("count(12)", vote.count(12), 5);
        CHECKS.due("boat(1, 4)", vote.boat(1, 4), 0);
        CHECKS.due("boat(1, 5)", vote.boat(1, 5), 5);
        CHECKS.due("boat(1, 1)", vote.boat(1, 1), 0);
    }

    private static void rowing() {
        BuoyVote vote = CHECKS.borough("b;cx1y9s3;cx9s1");
        vote.row(0, 5, 4);
        vote.row(1, 7, 1);
        int[][] want = {{1, 9, 9, 0}, {4, 9, 8, 0}, {5, 7, 7, 0}, {5, 4, 7, 1}, {5, 4, 7, 1}};
        for (int[] places : want) {
            CHECKS.all("places in HOUR " + vote.count(6), new long[] {vote.boat(0, 0), vote.boat(0, 1),
                vote.boat(1, 0), vote.boat(1, 1)}, places[0], places[1], places[2], places[3]);
            vote.hours(1);
        }
    }

    private static void sing() {
        BuoyVote vote = CHECKS.borough("bx3y3a8;bx5y3;cx3y4;cx4y4");
        CHECKS.due("sing(0, 0)", vote.sing(0, 0), 9);
        CHECKS.due("sing(0, 0) at nine", vote.sing(0, 0), NONE);
        CHECKS.due("sing(1, 0) 2 AWAY", vote.sing(1, 0), NONE);
        CHECKS.due("sing(0, 1)", vote.sing(0, 1), NONE);
        CHECKS.due("sing(2, 0)", vote.sing(2, 0), NONE);
        CHECKS.due("sing(-1, 0)", vote.sing(-1, 0), NONE);
        CHECKS.due("sing(0, 2)", vote.sing(0, 2), NONE);
        CHECKS.due("sing(0, -1)", vote.sing(0, -1), NONE);
        CHECKS.due("buoy(0, 3)", vote.buoy(0, 3), 9);
        CHECKS.due("buoy(0, 4)", vote.buoy(0, 4), 0);
        CHECKS.due("boat(0, 7)", vote.boat(0, 7), 1);
        CHECKS.due("count(12)", vote.count(12), 1);
    }

    private static void scrape() {
        BuoyVote vote = CHECKS.borough("bx3y3o1r2;bx5y3r1;cx3y4;cx5y3");
        CHECKS.due("scrape(0, 0)", vote.scrape(0, 0), 1);
        CHECKS.due("scrape(0, 0)", vote.scrape(0, 0), 0);
        CHECKS.due("scrape(0, 0) of none", vote.scrape(0, 0), NONE);
        CHECKS.due("buoy(0, 6)", vote.buoy(0, 6), 1);
        CHECKS.due("scrape(1, 1)", vote.scrape(1, 1), 0);
        CHECKS.due("scrape(0, 1)", vote.scrape(0, 1), NONE);
        CHECKS.due("scrape(2, 0)", vote.scrape(2, 0), NONE);
        CHECKS.due("scrape(-1, 0)", vote.scrape(-1, 0), NONE);
        CHECKS.due("scrape(0, 2)", vote.scrape(0, 2), NONE);
        CHECKS.due("scrape(0, -1)", vote.scrape(0, -1), NONE);
        CHECKS.due("count(12)", vote.count(12), 3);
        CHECKS.due("count(8)", vote.count(8), 0);
    }

    private static void wind() {
        BuoyVote vote = CHECKS.borough("b;c;c");
        CHECKS.due("wind(2, 0) as it is", vote.wind(2, 0), false);
        CHECKS.due("wind(10, 0)", vote.wind(10, 0), false);
        CHECKS.due("wind(-1, 0)", vote.wind(-1, 0), false);
        CHECKS.due("wind(2, 4)", vote.wind(2, 4), false);
        CHECKS.due("wind(2, -1)", vote.wind(2, -1), false);
        CHECKS.due("wind(9, 0)", vote.wind(9, 0), true);
        CHECKS.due("wind(9, 3)", vote.wind(9, 3), true);
        CHECKS.due("rule(0)", vote.rule(0), 9);
        CHECKS.due("rule(1)", vote.rule(1), 3);
        CHECKS.due("count(12)", vote.count(12), 2);
    }

    private static void hours() {
        BuoyVote vote = CHECKS.borough("b;c;c");
        CHECKS.due("hours(0)", vote.hours(0), NONE);
        CHECKS.due("hours(-1)", vote.hours(-1), NONE);
        CHECKS.due("hours(61)", vote.hours(61), NONE);
        CHECKS.due("hours(60)", vote.hours(60), 60);
        CHECKS.due("hours(1)", vote.hours(1), 61);
        CHECKS.due("count(6)", vote.count(6), 61);
        CHECKS.due("count(12)", vote.count(12), 40);
        CHECKS.due("years(0)", vote.years(0, 1), NONE);
        CHECKS.due("years(61)", vote.years(61, 1), NONE);
    }

    private static void lastHour() {
        BuoyVote vote = atHour(9960);
        CHECKS.due("hours(40)", vote.hours(40), NONE);
        CHECKS.due("years(40)", vote.years(40, 5), NONE);
        CHECKS.due("years(38)", vote.years(38, 5), 9998);
        CHECKS.due("hours(2)", vote.hours(2), NONE);
        CHECKS.due("ahead(0, 60)", vote.ahead(0, 60), NONE);
        CHECKS.due("hours(1)", vote.hours(1), 9999);
        CHECKS.due("hours(1) at the end", vote.hours(1), NONE);
        CHECKS.due("years(1) at the end", vote.years(1, 5), NONE);
        CHECKS.due("count(6)", vote.count(6), 9999);
        // HOURS go on apart: h is 10,001 two HOURS later.
        CHECKS.rule(vote, "y:v=4&h=9999+2?9;y:0");
        CHECKS.due("ahead(0, 1)", vote.ahead(0, 1), NONE);
        CHECKS.due("ahead(0, 2)", vote.ahead(0, 2), 1);
        CHECKS.due("fair(60, 0)", vote.fair(60, 0), 0);
        CHECKS.due("undo()", vote.undo(), 39);
        CHECKS.due("count(6) undone", vote.count(6), 9998);
    }

    private static BuoyVote atHour(int hour) {
        BuoyVote vote = CHECKS.borough("bc9;cv3;cv4");
        for (int i = 0; i < hour / 60; i++) {
            vote.hours(60);
        }
        return vote;
    }

    private static void counting() {
        // Two LEAN to BOAT 1, one to BOAT 0, one is upright; a COUNT every third HOUR.
        BuoyVote vote = CHECKS.borough("sw0h3;bx0a9;bx1e9o1r9;bx2e9o0r7;bx3y9;cx2;cx2v4");
        vote.hours(2);
        CHECKS.due("count(9) ahead of the COUNT", vote.count(9), 0);
        vote.hours(1);
        CHECKS.all("WON", new long[] {vote.boat(0, 6), vote.boat(1, 6), vote.count(9)}, 0, 1, 1);
        CHECKS.all("OLD votes", new long[] {vote.buoy(0, 6), vote.buoy(1, 6), vote.buoy(2, 6), vote.buoy(3, 6)},
            0, 1, 1, NONE);
        CHECKS.all("BARNACLES", new long[] {vote.buoy(0, 7), vote.buoy(1, 7), vote.buoy(2, 7), vote.buoy(3, 7)},
            1, 9, 1, 2);
        vote.hours(3);
        CHECKS.due("count(9) behind two", vote.count(9), 2);
        CHECKS.due("buoy(0, 7)", vote.buoy(0, 7), 2);
        // One each: nobody has WON, yet they have voted.
        vote = CHECKS.borough("sw0h1;bx0a9;bx1e9;c;cx1");
        vote.hours(1);
        CHECKS.all("one each", new long[] {vote.count(9), vote.buoy(0, 6), vote.buoy(1, 6)}, 0, 0, 1);
        vote = CHECKS.borough("sh1;bc9;c;c");
        vote.hours(1);
        CHECKS.all("all upright", new long[] {vote.count(9), vote.buoy(0, 6), vote.buoy(0, 7)}, 0, NONE, 2);
    }

    private static void barnacles() {
        // LEANS to BOAT 0 by BARNACLES, nine at most.
        BuoyVote vote = CHECKS.borough("sh1;bo0r8;c;c");
        CHECKS.due("pull(0, 0)", vote.pull(0, 0), 11);
        CHECKS.due("pull(0, 1)", vote.pull(0, 1), 3);
        vote.hours(3);
        CHECKS.due("buoy(0, 7)", vote.buoy(0, 7), 9);
        CHECKS.due("count(8)", vote.count(8), 9);
    }

    private static void years() {
        BuoyVote vote = CHECKS.borough("bx4;bx9y9;bx2y7;cs1;cx5y5s4");
        long x = 42;
        for (int hour = 1; hour <= 3; hour++) {
            int[] drawn = new int[4];
            for (int i = 0; i < 4; i++) {
                x = x * 6364136223846793005L + 1442695040888963407L;
                drawn[i] = (int) ((x >>> 33) % new int[] {4, 10, 3, 3}[i]);
            }
            BuoyVote same = CHECKS.borough("bx4;bx9y9;bx2y7;cs1;cx5y5s4");
            CHECKS.due("years(" + hour + ", 42)", same.years(hour, 42), hour);
            CHECKS.due("way", same.rule(1), drawn[0]);
            CHECKS.due("WIND", same.rule(0), drawn[1]);
            for (int boat = 0; boat < 2; boat++) {
                CHECKS.due("goal x", same.boat(boat, 4), same.buoy(drawn[2 + boat], 0));
                CHECKS.due("goal y", same.boat(boat, 5), same.buoy(drawn[2 + boat], 1));
            }
            CHECKS.due("acts", same.count(12), hour);
            CHECKS.due("undo()", same.undo(), hour - 1);
        }
        CHECKS.due("years(1, -7)", vote.years(1, -7), 1);
        CHECKS.due("log length", vote.count(11), 1);
        CHECKS.due("undo() of a year", vote.undo(), 0);
        CHECKS.all("as it was", new long[] {vote.rule(0), vote.rule(1), vote.boat(0, 4), vote.boat(0, 0),
            vote.boat(1, 4), vote.count(6), vote.count(11)}, 2, 0, 0, 0, 5, 0, 0);
    }

    private static void undo() {
        BuoyVote vote = CHECKS.borough("sw1h1;bx1r3o0;c;cx1y1");
        CHECKS.due("undo() of nothing", vote.undo(), NONE);
        vote.row(0, 5, 5);
        vote.sing(1, 0);
        vote.scrape(1, 0);
        vote.wind(7, 2);
        vote.hours(2);
        CHECKS.due("boat(0, 0)", vote.boat(0, 0), 4);
        CHECKS.due("undo() of an HOUR", vote.undo(), 5);
        CHECKS.due("boat(0, 0)", vote.boat(0, 0), 2);
        CHECKS.due("count(6)", vote.count(6), 1);
        CHECKS.due("undo() of an HOUR", vote.undo(), 4);
        CHECKS.all("COUNT undone", new long[] {vote.count(9), vote.buoy(0, 6), vote.buoy(0, 7)}, 0, 0, 2);
        CHECKS.due("undo() of the WIND", vote.undo(), 3);
        CHECKS.all("WIND", new long[] {vote.rule(0), vote.rule(1)}, 1, 0);
        CHECKS.due("undo() of scrape", vote.undo(), 2);
        CHECKS.due("buoy(0, 7)", vote.buoy(0, 7), 3);
        CHECKS.due("undo() of sing", vote.undo(), 1);
        CHECKS.all("LIKING, SANG", new long[] {vote.buoy(0, 4), vote.boat(1, 7)}, 0, 0);
        CHECKS.due("undo() of row", vote.undo(), 0);
        CHECKS.due("boat(0, 4)", vote.boat(0, 4), 0);
        CHECKS.due("undo() of no more", vote.undo(), NONE);
        for (int i = 0; i < 45; i++) {
            vote.wind(i % 10, i % 4);
        }
        CHECKS.due("count(12) of 45", vote.count(12), 40);
        for (int i = 39; i >= 0; i--) {
            CHECKS.due("undo() of 40", vote.undo(), i);
        }
        CHECKS.due("undo() of a 41st", vote.undo(), NONE);
        CHECKS.all("WIND behind the fifth", new long[] {vote.rule(0), vote.rule(1)}, 4, 0);
    }

    private static void undoneLog() {
        // BOAT 0 holds the BUOY while it is near: the LOG tells when.
        BuoyVote vote = CHECKS.borough("sw0t12h20;bc2;cs1v9;cx9y9");
        vote.row(0, 9, 9);
        vote.hours(60);
        vote.row(0, 0, 0);
        vote.hours(25);
        long[] shown = log(vote);
        vote.hours(39);
        CHECKS.due("count(11)", vote.count(11), 60);
        for (int i = 0; i < 39; i++) {
            vote.undo();
        }
        CHECKS.all("LOG undone", log(vote), shown);
    }

    private static long[] log(BuoyVote vote) {
        long[] log = new long[vote.count(11)];
        for (int i = 0; i < log.length; i++) {
            log[i] = vote.log(i, 0);
        }
        return log;
    }

    private static void log() {
        BuoyVote vote = CHECKS.borough("sw0h1;bx1a9;bx3f9;bx5f9;cx1;cx9y9;cx4");
        CHECKS.due("log(0, 0) of none", vote.log(0, 0), NONE);
        vote.hours(1);
        vote.row(0, 0, 9);
        vote.hours(5);
        CHECKS.all("latest", new long[] {vote.log(0, 0), vote.log(0, 1), vote.log(0, 2)}, 1, 0, 2);
        CHECKS.due("log(5, 0)", vote.log(5, 0), 1);
        CHECKS.due("log(6, 0)", vote.log(6, 0), NONE);
        CHECKS.due("log(-1, 0)", vote.log(-1, 0), NONE);
        CHECKS.due("log(0, 3)", vote.log(0, 3), NONE);
        CHECKS.due("log(0, -1)", vote.log(0, -1), NONE);
        vote.hours(60);
        CHECKS.due("count(11)", vote.count(11), 60);
        CHECKS.due("log(59, 2)", vote.log(59, 2), 2);
        CHECKS.due("log(60, 2)", vote.log(60, 2), NONE);
        // What the COUNT does comes behind the LOG: by its new barnacle the BUOY turns to BOAT 1.
        vote = CHECKS.borough("sw0h1;bc0;cv5;cv3");
        CHECKS.rule(vote, "y:v-r*5");
        vote.hours(1);
        CHECKS.all("LOG ahead of the COUNT", new long[] {vote.log(0, 0), vote.log(0, 1)}, 1, 0);
        CHECKS.all("behind it", new long[] {vote.votes(0), vote.votes(1), vote.boat(0, 6)}, 0, 1, 1);
    }

    private static void run() {
        BuoyVote vote = CHECKS.borough("bx1a8r1;bx9y9;c;cx2y2s2");
        int plan = CHECKS.plan(vote, "s00;g112;h1;s10;c10;s10;g112");
        CHECKS.due("run(0, 0)", vote.run(plan, 0), 3);
        CHECKS.due("run(0, 1)", vote.run(plan, 1), 1);
        plan = CHECKS.plan(vote, "s00;g110;h2;s10;c10;s10;g110");
        CHECKS.due("to ROW where it is to ROW", vote.run(plan, 0), 6);
        CHECKS.due("SANG", vote.run(plan, 1), 3);
        CHECKS.due("nothing has changed", vote.count(12) + vote.boat(0, 7) + vote.count(6), 0);
        plan = CHECKS.plan(vote, "h1;h0");
        CHECKS.due("no HOURS", vote.run(plan, 0), 1);
        CHECKS.due("HIDDEN", vote.run(plan, 2), HIDDEN);
        CHECKS.due("HIDDEN", vote.run(plan, -1), HIDDEN);
        CHECKS.due("HIDDEN", vote.run(3, 0), HIDDEN);
        CHECKS.due("HIDDEN", vote.run(-1, 0), HIDDEN);
        plan = CHECKS.plan(vote, "h9;g199");
        CHECKS.due("all can be", vote.run(plan, 0), NONE);
        CHECKS.due("SANG to none", vote.run(plan, 1), 0);
        for (String first : new String[] {"g200", "g900", "s20", "s08", "c20", "c09", "s01", "c01", "g000", "h0"}) {
            vote = CHECKS.borough("bx1a9r0;bx9y9;c;cx2y2s2");
            plan = CHECKS.plan(vote, first);
            CHECKS.due("run of " + first, vote.run(plan, 0), 0);
            CHECKS.due("perform of " + first, vote.perform(plan), 0);
            CHECKS.due("acts", vote.count(12), 0);
        }
        // BOAT 1 is at the BUOY in HOUR 1, and past it in HOUR 2.
        vote = CHECKS.borough("bx5;c;cx9s4");
        CHECKS.due("one HOUR", vote.run(CHECKS.plan(vote, "g100;h1;s10"), 0), NONE);
        CHECKS.due("two HOURS", vote.run(CHECKS.plan(vote, "g100;h2;s10"), 0), 2);
        CHECKS.due("places", vote.run(CHECKS.plan(vote, "g195;g190;g191;g181;g181"), 0), 4);
        vote = new BuoyVote();
        plan = CHECKS.plan(vote, "h1");
        CHECKS.due("run without a BOROUGH", vote.run(plan, 0), HIDDEN);
        CHECKS.due("perform without a BOROUGH", vote.perform(plan), NONE);
    }

    private static void perform() {
        BuoyVote vote = CHECKS.borough("bx1a8r1;bx9y9;c;cx2y2s2");
        int plan = CHECKS.plan(vote, "s00;g110;h2;s10;c10;s10;g110;h5");
        CHECKS.due("perform", vote.perform(plan), 6);
        CHECKS.all("done", new long[] {vote.boat(0, 7), vote.boat(1, 7), vote.count(6), vote.count(12),
            vote.count(8), vote.boat(1, 0), vote.boat(1, 1)}, 1, 2, 2, 7, 2, 1, 0);
        CHECKS.due("undo()", vote.undo(), 6);
        CHECKS.due("perform again", vote.perform(plan), 0);
        plan = CHECKS.plan(vote, "h9;h1");
        CHECKS.due("perform of HOURS", vote.perform(plan), 2);
        CHECKS.all("HOURS", new long[] {vote.count(6), vote.count(11), vote.count(12)}, 12, 12, 16);
        CHECKS.due("perform(2)", vote.perform(2), NONE);
        CHECKS.due("perform(-1)", vote.perform(-1), NONE);
    }

    private static void performAtTheEnd() {
        BuoyVote vote = atHour(9960);
        vote.hours(38);
        int plan = CHECKS.plan(vote, "h3;g055");
        CHECKS.due("run", vote.run(plan, 0), NONE);
        CHECKS.due("perform", vote.perform(plan), 2);
        CHECKS.due("HOUR", vote.count(6), 9999);
    }

    private static void image() {
        BuoyVote vote = CHECKS.borough("sw0h2;bx1a3r5o1;bx2;c;cx1y1");
        CHECKS.due("back() without", vote.back(), NONE);
        vote.sing(1, 0);
        vote.row(0, 4, 4);
        vote.hours(3);
        vote.seen(0, 0, 0, 0);
        CHECKS.due("image()", vote.image(), 3);
        long[] kept = all(vote);
        vote.wind(9, 3);
        vote.sing(1, 0);
        vote.scrape(1, 0);
        vote.row(1, 9, 9);
        vote.years(60, 3);
        vote.hours(60);
        vote.seen(1, 0, 0, 0);
        CHECKS.due("back()", vote.back(), 3);
        CHECKS.all("as it was", all(vote), kept);
        CHECKS.due("count(12)", vote.count(12), 0);
        CHECKS.due("undo()", vote.undo(), NONE);
        CHECKS.due("SEEN stays", vote.count(10), 2);
        vote.hours(4);
        CHECKS.due("back() again", vote.back(), 3);
        CHECKS.all("as it was again", all(vote), kept);
        vote.hours(5);
        CHECKS.due("image() instead", vote.image(), 8);
        vote.hours(5);
        CHECKS.due("count(12) behind an IMAGE", vote.count(12), 10);
        CHECKS.due("back()", vote.back(), 8);
        Checks.tape(vote, "b;c;c");
        vote.text(0);
        CHECKS.due("back() in another BOROUGH", vote.back(), NONE);
    }

    private static long[] all(BuoyVote vote) {
        java.util.List<Integer> answers = new java.util.ArrayList<>();
        for (int what = 0; what < 9; what++) {
            answers.add(vote.buoy(0, what));
            answers.add(vote.buoy(1, what));
            answers.add(vote.boat(0, what));
            answers.add(vote.boat(1, what));
            answers.add(vote.rule(what));
        }
        for (int i = 0; i < 60; i++) {
            answers.add(vote.log(i, 0));
            answers.add(vote.log(i, 1));
        }
        answers.add(vote.count(6));
        answers.add(vote.count(11));
        return answers.stream().mapToLong(Integer::longValue).toArray();
    }

    private static void counts() {
        BuoyVote vote = CHECKS.borough("sw0h2;bx1a9r5o1;bx2;bx9y9a9;c;cx1y1;cx9y8v9");
        CHECKS.rule(vote, "y:v+l-d");
        CHECKS.plan(vote, "h1");
        vote.hours(4);
        vote.seen(0, 0, 0, 0);
        Checks.tape(vote, "abc");
        long[] got = new long[13];
        for (int what = 0; what < 13; what++) {
            got[what] = vote.count(what);
        }
        // By BOAT 0 and by BOAT 2 one BUOY LEANS each, the second one not at all: nobody has WON.
        CHECKS.all("counts", got, 3, 3, 1, 1, 3, 0, 4, 5, 2 + 2 + 2, 0, 1, 4, 4);
        CHECKS.due("count(13)", vote.count(13), HIDDEN);
        CHECKS.due("count(-1)", vote.count(-1), HIDDEN);
    }
}
