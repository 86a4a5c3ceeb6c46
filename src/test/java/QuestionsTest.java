/** Promises 23 to 45: what is asked of a BOROUGH, and apart from it. */
public final class QuestionsTest {
    private static final int NONE = BuoyVote.NONE;
    private static final int HIDDEN = BuoyVote.HIDDEN;
    private static final Checks CHECKS = new Checks();

    public static void main(String[] args) {
        votesAndLeader();
        ahead();
        soon();
        round();
        roundOfAll();
        best();
        game();
        thirdBoat();
        rests();
        holds();
        seen();
        likes();
        ask();
        blown();
        washed();
        watch();
        fair();
        buoys();
        sways();
        nearest();
        fog();
        needs();
        heard();
        middle();
        CHECKS.finish();
    }

    private static void votesAndLeader() {
        BuoyVote vote = CHECKS.borough("sw0;bx0a9;bx1e9;bx2e9;bx3y9;cx2;cx2");
        CHECKS.all("VOTES", new long[] {vote.votes(0), vote.votes(1), vote.votes(2), vote.votes(-1)}, 1, 2, NONE, NONE);
        CHECKS.due("leader()", vote.leader(), 1);
        CHECKS.due("two with as many", CHECKS.borough("sw0;bx0a9;bx1e9;cx2;cx2;cx9v0").leader(), NONE);
        CHECKS.due("all upright", CHECKS.borough("bc9;c;c").leader(), NONE);
        vote = CHECKS.borough("sw0;bx0f9;bx1f9;bx2e9;bx3a9;cx2;cx2;cx2");
        CHECKS.due("BOAT 2", vote.leader(), 2);
        CHECKS.due("votes(2)", vote.votes(2), 2);
    }

    private static void ahead() {
        // BOAT 0 comes from 9 AWAY at a cell an HOUR: it draws 1 and the HOUR (1 by the TIDE, until it is there), BOAT 1
        // draws 5.
        BuoyVote vote = CHECKS.borough("sw0t12;bc4;cx9v9s1;cy1v6");
        CHECKS.due("row", vote.row(0, 0, 0), 9);
        CHECKS.all("AHEAD", new long[] {vote.ahead(0, 0), vote.ahead(0, 3), vote.ahead(0, 4), vote.ahead(0, 5),
            vote.ahead(0, 9), vote.ahead(0, 60)}, 1, 1, NONE, 0, 0, 0);
        CHECKS.due("HOUR stays", vote.count(6), 0);
        CHECKS.due("ahead(0, 61)", vote.ahead(0, 61), HIDDEN);
        CHECKS.due("ahead(0, -1)", vote.ahead(0, -1), HIDDEN);
        CHECKS.due("ahead(1, 0)", vote.ahead(1, 0), HIDDEN);
        CHECKS.due("ahead(-1, 0)", vote.ahead(-1, 0), HIDDEN);
        // A COUNT on the way: the barnacle of HOUR 2 is there then.
        vote = CHECKS.borough("sh2;bc0;cv5;cv3");
        CHECKS.rule(vote, "y:v-r*5");
        CHECKS.all("AHEAD over a COUNT", new long[] {vote.ahead(0, 1), vote.ahead(0, 2), vote.ahead(0, 4)}, 0, 1, 0);
    }

    private static void soon() {
        BuoyVote vote = CHECKS.borough("bx1;bx9y9;cs4;cx1s3");
        CHECKS.all("SOON", new long[] {vote.soon(0, 0), vote.soon(0, 1), vote.soon(1, 0), vote.soon(1, 1)}, 1, 5, 0, 6);
        CHECKS.all("none", new long[] {vote.soon(2, 0), vote.soon(-1, 0), vote.soon(0, 2), vote.soon(0, -1)},
            NONE, NONE, NONE, NONE);
    }

    private static void round() {
        // On one line, at 0, 3, 6, 9: from 4 to the left end first, and 1 on the way there or back.
        BuoyVote vote = CHECKS.borough("b;bx3;bx6;bx9;cx4s1;cx4s4");
        CHECKS.all("all", new long[] {vote.round(0, 15, 0), vote.round(0, 15, 1)}, 123, 4 + 9);
        CHECKS.all("some", new long[] {vote.round(0, 10, 0), vote.round(0, 10, 1)}, 13, 7);
        CHECKS.all("by itself", new long[] {vote.round(0, 4, 0), vote.round(0, 4, 1)}, 2, 2);
        CHECKS.all("none", new long[] {vote.round(0, 0, 0), vote.round(0, 0, 1)}, 0, 0);
        // With SPEED 4 each leg to a neighbour takes an HOUR: 0 ahead of 1 would take 1 + 1 + 2 + 1.
        CHECKS.all("fast", new long[] {vote.round(1, 15, 0), vote.round(1, 15, 1)}, 123, 4);
        CHECKS.all("refused", new long[] {vote.round(0, 16, 0), vote.round(0, -1, 0), vote.round(0, 1, 2),
            vote.round(0, 1, -1), vote.round(2, 1, 0), vote.round(-1, 1, 0), vote.round(0, Integer.MIN_VALUE, 0)},
            NONE, NONE, NONE, NONE, NONE, NONE, NONE);
    }

    private static void roundOfAll() {
        BuoyVote vote = CHECKS.borough("bx7;bx6;bx5;bx4;bx3;bx2;bx1;bx0;cx0s1;cx9s1");
        CHECKS.all("eight", new long[] {vote.round(0, 255, 0), vote.round(0, 255, 1), vote.round(1, 255, 0),
            vote.round(1, 255, 1)}, 76543210, 7, 1234567, 9);
    }

    private static void best() {
        // BOAT 0 has a BUOY when it is near enough: VOICE 3 less AWAY against CHAIN 1, BOAT 1 far off; no PUSH counts.
        BuoyVote vote = CHECKS.borough("bx2y2c1;bx4y2c1;bx9y9c9;c;cx9y9v0");
        CHECKS.rule(vote, "y:v-d");
        CHECKS.all("BEST", new long[] {vote.best(0, 0), vote.best(0, 1)}, 13, 2);
        CHECKS.all("others", new long[] {vote.best(1, 0), vote.best(1, 1)}, 0, 0);
        CHECKS.all("refused", new long[] {vote.best(2, 0), vote.best(-1, 0), vote.best(0, 2), vote.best(0, -1)},
            NONE, NONE, NONE, NONE);
        CHECKS.due("the BOAT stays", vote.boat(0, 0), 0);
        // By WIND 9 to the right any place further right than the BUOY will do: y 0, x 6.
        vote = CHECKS.borough("sw9;bx5c7;c;cx9y9v0");
        CHECKS.all("WIND", new long[] {vote.best(0, 0), vote.best(0, 1)}, 6, 1);
    }

    private static void game() {
        BuoyVote vote = CHECKS.borough("sw0;b;bx2;bx4;cx9y9;cx9y9v4");
        CHECKS.rule(vote, "y:v+3-d");
        CHECKS.all("GAME", new long[] {vote.game(0, 1, 0, 2, 0), vote.game(0, 1, 0, 2, 1), vote.game(0, 1, 1, 1, 0),
            vote.game(0, 1, 1, 1, 1), vote.game(1, 0, 0, 2, 0), vote.game(1, 0, 0, 2, 1)}, 1, 2, 0, 3, 2, 1);
        CHECKS.all("refused", new long[] {vote.game(0, 0, 0, 0, 0), vote.game(0, 2, 0, 0, 0), vote.game(-1, 1, 0, 0, 0),
            vote.game(0, 1, 3, 0, 0), vote.game(0, 1, 0, 3, 0), vote.game(0, 1, -1, 0, 0), vote.game(0, 1, 0, -1, 0),
            vote.game(0, 1, 0, 0, 2), vote.game(0, 1, 0, 0, -1)}, NONE, NONE, NONE, NONE, NONE, NONE, NONE, NONE, NONE);
        CHECKS.due("the BOAT stays", vote.boat(0, 0), 9);
    }

    private static void thirdBoat() {
        // BOAT 2 stays at BUOY 0 and keeps it against VOICE 3.
        BuoyVote vote = CHECKS.borough("sw0;b;bx9y9;cx5;cx5;cv9");
        CHECKS.all("GAME with a third", new long[] {vote.game(0, 1, 0, 1, 0), vote.game(0, 1, 0, 1, 1)}, 0, 1);
        // BUOY 1 alone can be had: at 00 each would rather be there, at 11 neither has it nor has more elsewhere.
        CHECKS.all("RESTS with a third", rests(vote, 0, 1), 1, 10, 11);
        CHECKS.all("HOLDS with a third", new long[] {vote.holds(0, 1, 0), vote.holds(0, 1, 1)}, 1, 0);
    }

    private static long[] rests(BuoyVote vote, int one, int other) {
        long[] rests = new long[vote.rests(one, other, NONE)];
        for (int i = 0; i < rests.length; i++) {
            rests[i] = vote.rests(one, other, i);
        }
        CHECKS.due("no such RESTS", vote.rests(one, other, rests.length), NONE);
        return rests;
    }

    private static void rests() {
        BuoyVote vote = CHECKS.borough("sw0;b;bx2;bx4;cx9y9;cx9y9v4");
        CHECKS.rule(vote, "y:v+3-d");
        // BOAT 1 has most where BOAT 0 is, who has none there, but one at least elsewhere.
        CHECKS.all("games", new long[] {vote.game(0, 1, 0, 0, 0), vote.game(0, 1, 1, 0, 0), vote.game(0, 1, 2, 0, 0),
            vote.game(0, 1, 0, 1, 0), vote.game(0, 1, 2, 1, 0)}, 0, 2, 1, 1, 1);
        CHECKS.all("none rest", rests(vote, 0, 1));
        // Each has what likes it, wherever it is: all places rest.
        vote = CHECKS.borough("sw0;ba1c1;bx9e1c1;c;c");
        CHECKS.rule(vote, "y:l");
        CHECKS.all("all rest", rests(vote, 0, 1), 0, 1, 10, 11);
        CHECKS.all("refused", new long[] {vote.rests(0, 0, NONE), vote.rests(0, 2, NONE), vote.rests(-1, 0, NONE),
            vote.rests(0, 1, -2), vote.rests(0, 1, 4)}, NONE, NONE, NONE, NONE, NONE);
    }

    private static void holds() {
        BuoyVote vote = CHECKS.borough("sw0;b;bx2;bx4;cx9y9;cx9y9v4");
        CHECKS.rule(vote, "y:v+3-d");
        // BOAT 1 in the middle: against 0 or 4 it has two and the other one; against the middle all three.
        CHECKS.all("the louder", new long[] {vote.holds(1, 0, 0), vote.holds(1, 0, 1)}, 1, 1);
        CHECKS.all("the other", new long[] {vote.holds(0, 1, 0), vote.holds(0, 1, 1)}, 0, -3);
        CHECKS.all("refused", new long[] {vote.holds(0, 0, 0), vote.holds(0, 2, 0), vote.holds(-1, 0, 0),
            vote.holds(0, 1, 2), vote.holds(0, 1, -1)}, HIDDEN, HIDDEN, HIDDEN, HIDDEN, HIDDEN);
        CHECKS.due("the BOAT stays", vote.boat(0, 0), 9);
    }

    private static void seen() {
        BuoyVote vote = CHECKS.borough("b;bx1;c;c");
        CHECKS.all("refused", new long[] {vote.seen(2, 0, 0, 0), vote.seen(-1, 0, 0, 0), vote.seen(0, 19, 0, 0),
            vote.seen(0, -1, 0, 0), vote.seen(0, 0, 19, 0), vote.seen(0, 0, -1, 0), vote.seen(0, 0, 0, 3),
            vote.seen(0, 0, 0, -1)}, NONE, NONE, NONE, NONE, NONE, NONE, NONE, NONE);
        for (int i = 1; i <= 10; i++) {
            CHECKS.due("seen " + i, vote.seen(i % 2, 18, 18, 2), i);
        }
        CHECKS.due("an eleventh", vote.seen(0, 18, 18, 2), NONE);
        CHECKS.due("count(10)", vote.count(10), 10);
        CHECKS.due("count(12)", vote.count(12), 0);
    }

    private static void likes() {
        // VOICES 5 and 2, CHAIN 6: it LEANED to 0 with 3 and 0 AWAY: 5 + a - 3 > 2 + e and >= 6: a >= 4 and a > e.
        BuoyVote vote = CHECKS.borough("sw9;bx3c6a1r9o1;bx4;cv5;cv2;cv9");
        CHECKS.due("all fit", vote.likes(0, NONE), 100);
        CHECKS.due("the last of all", vote.likes(0, 99), 99);
        vote.seen(0, 3, 0, 0);
        CHECKS.due("those with a > e", vote.likes(0, NONE), 4 + 5 + 6 + 7 + 8 + 9);
        CHECKS.due("the first", vote.likes(0, 0), 40);
        CHECKS.due("the fifth", vote.likes(0, 4), 50);
        CHECKS.due("of another BUOY", vote.likes(1, NONE), 100);
        // Upright with 0 and 18 AWAY: 5 + a < 6, so a is 0; nothing fits then.
        vote.seen(0, 0, 18, 2);
        CHECKS.due("nothing fits", vote.likes(0, NONE), 0);
        CHECKS.due("no such one", vote.likes(0, 0), NONE);
        CHECKS.all("refused", new long[] {vote.likes(1, 100), vote.likes(1, -2), vote.likes(2, NONE),
            vote.likes(-1, NONE)}, NONE, NONE, NONE, NONE);
        // By the LAW that holds, in HOUR 0, without PUSH and BARNACLES.
        vote = CHECKS.borough("sw9;bx3c1a1r9o1;c;c");
        vote.hours(5);
        CHECKS.rule(vote, "y:l*5-d-h*9-p*9-r*9");
        vote.seen(0, 4, 18, 0);
        CHECKS.due("by LAW", vote.likes(0, 0), 10);
        CHECKS.due("by LAW, how many", vote.likes(0, NONE), 4 + 5 + 6 + 7 + 8 + 9 + 10 * 3);
    }

    private static void ask() {
        // By CHAIN 0 and the LAW l - d: 0 with d against the other with 3.
        BuoyVote vote = CHECKS.borough("bc0;c;c");
        CHECKS.rule(vote, "y:l+9-d");
        // With d 3 it is 45 : 45 : 10; with d 4: 36 (a - 1 > e), 55, 9.
        CHECKS.due("ask(0)", vote.ask(0), 3);
        CHECKS.due("ask(1)", vote.ask(1), NONE);
        CHECKS.due("ask(-1)", vote.ask(-1), NONE);
        vote.seen(0, 3, 3, 0);
        // Among the 45 with a > e: d 5: 28, 8, 9; d 6: 21 (a - 3 > e), 7, 17; d 7: 15, 6, 24.
        CHECKS.due("ask(0) behind a look", vote.ask(0), 6);
        vote.seen(0, 3, 3, 1);
        CHECKS.due("ask(0), nothing fits", vote.ask(0), NONE);
        // 5 and LIKING less AWAY, CHAIN 9: d 0: 54 to 0, 15 to 1, 31 upright; d 1: 44, 18, 38; d 2: 34, 21, 45.
        vote = CHECKS.borough("bc9;cv5;cv5");
        CHECKS.rule(vote, "y:v+l-d");
        CHECKS.due("upright counts, too", vote.ask(0), 1);
        vote = CHECKS.borough("bc9;cv0;cv0");
        CHECKS.rule(vote, "y:0");
        CHECKS.due("of several the least", vote.ask(0), 0);
    }

    private static void blown() {
        BuoyVote vote = new BuoyVote();
        CHECKS.all("WIND OR LIKING", new long[] {vote.blown(0, 0), vote.blown(2, 1), vote.blown(18, 0),
            vote.blown(18, 18), vote.blown(10, 7)}, 500000, 390243, 0, 999788, 632080);
        CHECKS.all("refused", new long[] {vote.blown(19, 0), vote.blown(-1, 0), vote.blown(3, 4), vote.blown(3, -1),
            vote.blown(-1, -1)}, NONE, NONE, NONE, NONE, NONE);
    }

    private static void washed() {
        // To 0 LEAN BUOYS 0 and 2, to 1 BUOY 1, to BOAT 2 BUOY 3, BUOY 4 is upright.
        BuoyVote vote = CHECKS.borough("sw0;bx0a9;bx1e9;bx2a9;bx3f9;bx4c9;cx1;cx1;cx1");
        CHECKS.all("as it is", washed(vote, 2, 1), 0, 3, 6);
        CHECKS.all("one over", washed(vote, 1, 2), 1, 4);
        CHECKS.all("two over", washed(vote, 0, 3), 5);
        CHECKS.all("the other way", washed(vote, 3, 0), 2);
        CHECKS.all("never", washed(vote, 2, 2));
        CHECKS.all("refused", new long[] {vote.washed(9, 0, NONE), vote.washed(-1, 0, NONE), vote.washed(0, 9, NONE),
            vote.washed(0, -1, NONE), vote.washed(2, 1, -2)}, NONE, NONE, NONE, NONE, NONE);
    }

    private static long[] washed(BuoyVote vote, int a, int b) {
        long[] sets = new long[vote.washed(a, b, NONE)];
        for (int i = 0; i < sets.length; i++) {
            sets[i] = vote.washed(a, b, i);
        }
        CHECKS.due("no such set", vote.washed(a, b, sets.length), NONE);
        return sets;
    }

    private static void watch() {
        BuoyVote vote = CHECKS.borough("b;bx2;bx4;bx6;bx8;bx8y9;c;c");
        CHECKS.all("WATCH", new long[] {vote.watch(0), vote.watch(2), vote.watch(4), vote.watch(8), vote.watch(9),
            vote.watch(18)}, 63, 1 + 8 + 32, 4 + 32, 1 + 32, 16, 1);
        CHECKS.all("refused", new long[] {vote.watch(-1), vote.watch(19)}, NONE, NONE);
        // From 1 and 8 all are seen 1 AWAY; 2 AWAY from 0 and 8, too, and that is less.
        vote = CHECKS.borough("bx0;bx1;bx8;bx9;bx2;bx7;c;c");
        CHECKS.all("of several the least", new long[] {vote.watch(1), vote.watch(2)}, 2 + 4, 1 + 4);
    }

    private static void fair() {
        // BOAT 0 has both at first; BOAT 1 comes and has one from HOUR 3 on, both later.
        BuoyVote vote = CHECKS.borough("sw0;bx0c1;bx3c1;cv5;cx9v9s1");
        CHECKS.rule(vote, "y:v-d");
        vote.row(1, 0, 0);
        // BOAT 1 at 9 - h: at BUOY 1 it draws 3 + h against 2, so BUOY 1 is its own from the first; at BUOY 0 h against 5.
        CHECKS.all("FAIR", new long[] {vote.fair(1, 0), vote.fair(1, 1)}, 0, 0);
        vote = CHECKS.borough("sw0;bx0c1;bx3c1;cv5;cx9v9s1");
        CHECKS.rule(vote, "y:v-d*2");
        vote.row(1, 0, 0);
        // BUOY 0: 5 against 9 - 18 + 2h; BUOY 1: -1 against 9 - 12 + 2h, CHAIN 1: BOAT 1 has it from HOUR 2 on.
        CHECKS.all("votes", new long[] {vote.votes(0), vote.votes(1)}, 1, 0);
        CHECKS.all("FAIR too soon", new long[] {vote.fair(1, 0), vote.fair(1, 1)}, 0, 1);
        CHECKS.all("FAIR", new long[] {vote.fair(2, 0), vote.fair(2, 1), vote.fair(60, 0), vote.fair(60, 1)}, 2, 0, 2, 0);
        CHECKS.all("refused", new long[] {vote.fair(0, 0), vote.fair(61, 0), vote.fair(-1, 0), vote.fair(1, 2),
            vote.fair(1, -1)}, NONE, NONE, NONE, NONE, NONE);
        CHECKS.due("HOUR stays", vote.count(6), 0);
    }

    private static void buoys() {
        BuoyVote vote = CHECKS.borough("sw4;bx0c4o0;bx1c5o1;bx2c3o0r9;bx3c9o1;c;cx3");
        CHECKS.due("LOOSE", vote.buoys(0), 1 + 4);
        vote.wind(9, 0);
        CHECKS.due("LOOSE in WIND", vote.buoys(0), 15);
        vote.wind(0, 0);
        // BUOY 0: BOAT 0 has 3 + 2, LEANS to its OLD vote; BUOY 1: BOAT 1 has 3 + 2 - 2 + 1, too little;
        // BUOY 2: BOAT 0 has 3 + 9 - 2; BUOY 3: BOAT 1 has 3 + 2, too little.
        CHECKS.due("FAITHFUL", vote.buoys(1), 1 + 4);
        // Upright without an OLD vote is not FAITHFUL, nor is who LEANS to another.
        CHECKS.due("not FAITHFUL", CHECKS.borough("bc9;bx1o1r1;cv9;cx1").buoys(1), 0);
        CHECKS.all("refused", new long[] {vote.buoys(2), vote.buoys(-1)}, NONE, NONE);
    }

    private static void sways() {
        BuoyVote vote = CHECKS.borough("sw0;bc5;bx9y9c9;cv3;cv7;cv6");
        CHECKS.all("SWAYS", new long[] {vote.sways(0, 0), vote.sways(0, 1), vote.sways(1, 0), vote.sways(1, 1)},
            -2, 1, 9 + 11, 1);
        CHECKS.due("two alike", CHECKS.borough("bc5;cv6;cv3;cv6").sways(0, 1), 0);
        CHECKS.all("refused", new long[] {vote.sways(2, 0), vote.sways(-1, 0), vote.sways(0, 2), vote.sways(0, -1)},
            HIDDEN, HIDDEN, HIDDEN, HIDDEN);
    }

    private static void nearest() {
        BuoyVote vote = CHECKS.borough("bx9;bx4;by2;cx2y1;cx5y5");
        CHECKS.all("NEAREST", new long[] {vote.nearest(0), vote.nearest(1), vote.nearest(2), vote.nearest(-1)},
            1, 1, NONE, NONE);
        vote = CHECKS.borough("b;c;cx1");
        CHECKS.all("of one", new long[] {vote.nearest(0), vote.nearest(1)}, 0, 0);
        CHECKS.due("of several the lowest", CHECKS.borough("bx9;by2;bx4;cx2y1;c").nearest(0), 1);
    }

    private static void fog() {
        // One LEANS to BOAT 0, one to BOAT 1, one to BOAT 2, one is upright.
        BuoyVote vote = CHECKS.borough("sw0;bx0a9;bx1e9;bx2c9;bx3f9;cx1;cx1;cx1");
        CHECKS.all("FOG", new long[] {vote.fog(0, 0), vote.fog(0, 50), vote.fog(1, 50), vote.fog(0, 10),
            vote.fog(2, 10), vote.fog(0, 100)}, 0, 125000000, 125000000, 9000000, 9000000, 0);
        CHECKS.due("one alone", CHECKS.borough("bx0a9;bx1a9;c;c").fog(0, 30), 910000000);
        CHECKS.due("one alone, the other BOAT", CHECKS.borough("bx0a9;bx1a9;c;c").fog(1, 30), 0);
        // Each way is cut by itself: all parts but those of the way in which none is seen.
        vote = CHECKS.borough("bx0a9c0;bx1a9c0;bx2a9c0;bx3a9c0;bx4a9c0;bx5a9c0;bx6a9c0;bx7a9c0;cv9;cv0");
        CHECKS.due("votes(0)", vote.votes(0), 8);
        long left = 1000000000L;
        for (int i = 0; i < 8; i++) {
            left = left * 37 / 100;
        }
        CHECKS.due("cut", vote.fog(0, 37), 1000000000L - left);
        CHECKS.all("refused", new long[] {vote.fog(2, 0), vote.fog(-1, 0), vote.fog(0, 101), vote.fog(0, -1)},
            NONE, NONE, NONE, NONE);
    }

    private static void needs() {
        // CHAIN 5 and BOAT 1 with 6: BOAT 0 with VOICE 2 needs 7 - 2.
        BuoyVote vote = CHECKS.borough("bc5a9;bx9y9c9a0;cv2;cv6");
        CHECKS.all("NEED", new long[] {vote.needs(0, 0), vote.needs(1, 0), vote.needs(0, 1)}, 5, 6, NONE);
        CHECKS.due("LIKING stays", vote.buoy(0, 3), 9);
        CHECKS.due("by CHAIN", CHECKS.borough("bc5;cv2;cv1").needs(0, 0), 3);
        CHECKS.due("by nine", CHECKS.borough("bc9;cv0;cv1").needs(0, 0), 9);
        CHECKS.due("by more than nine", CHECKS.borough("bc9;cv0;cv9").needs(0, 0), NONE);
        CHECKS.due("nothing needed", CHECKS.borough("bc5a3;cv6;cv1").needs(0, 0), 0);
        CHECKS.all("refused", new long[] {vote.needs(2, 0), vote.needs(-1, 0), vote.needs(0, 2), vote.needs(0, -1)},
            NONE, NONE, NONE, NONE);
    }

    private static void heard() {
        BuoyVote vote = CHECKS.borough("bx3y3;bx4y3;bx5y3;bx4y4;bx3y2;cx4y3;cx9y9");
        CHECKS.all("HEARD", new long[] {vote.heard(0), vote.heard(1), vote.heard(2), vote.heard(-1)},
            1 + 2 + 4 + 8, 0, NONE, NONE);
        CHECKS.due("nothing near", CHECKS.borough("bx5;c;c").heard(0), 0);
    }

    private static void middle() {
        CHECKS.due("of one", CHECKS.borough("bx7y4;c;c").middle(), 47);
        CHECKS.due("of two", CHECKS.borough("bx7y4;bx5y8;c;c").middle(), 45);
        CHECKS.due("of three", CHECKS.borough("bx7y4;bx5y8;bx6y9;c;c").middle(), 86);
    }
}
