import java.math.BigInteger;

/** Bounds of what is asked: part 3 of the terms, promises 23 to 45. */
final class QuestionEdges {
    private static final int NONE = BuoyVote.NONE;
    private static final int HIDDEN = BuoyVote.HIDDEN;
    private static final int[] BUOYS = {0, 2};
    private static final int[] BOATS = {0, 2};
    private static final int[] EITHER = {0, 1};
    /** BOAT 0 has all eight, wherever it is. */
    private static final String EIGHT = "sw0;bc0;bx1c0;bx2c0;bx3c0;bx4c0;bx5c0;bx6c0;bx7c0;";

    /** Of all sorts, for what is worked out in another way. */
    private static final String[] BOROUGHS = {"sw2d1;bx1y7c1a3;bx4y4e4o1;bx8y2c2r5;bx9y9o0;bx3y1c4;bx6y6e2;cx5y5s3v5;cx2y8s1v6",
        "sw4d2t1;bx3y3c0o2r7;bx6y3f2;bx3y6a2c1;bx6y6e3;bx5y8;cx3y4v6s2;cx6y6v7s4;cx5y2v5",
        "sw1d3;bx9c0;bx8y1a1;bx7y2e1;bx6y3c1;bx5y4a4;bx4y5e4o0r4;cx9y9v8s4;cv7s2;cx4y5v4"};

    private final Edges edges;

    QuestionEdges(Edges edges) {
        this.edges = edges;
    }

    void run() {
        votes();
        leader();
        ahead();
        soon();
        round();
        best();
        game();
        rests();
        holds();
        seen();
        likes();
        ask();
        blown();
        washed();
        watch();
        fair();
        loose();
        faithful();
        sways();
        nearest();
        fog();
        needs();
        heard();
        middle();
        onlyAsked();
        refusedInARow();
    }

    private static void two(BuoyVote vote) {
        Scenes.tell(vote, 0, "b;bx1;c;c");
        vote.hours(2);
    }

    private void votes() {
        edges.sentence("votes", "VOTES.");
        edges.sentence("Terms", "VOTES: how many LEAN to a BOAT.");
        BuoyVote vote = edges.borough(EIGHT + "cx4v9;cx9y9v0");
        edges.all("all", new long[] {vote.votes(0), vote.votes(1)}, 8, 0);
        vote = edges.borough("sw0;bx0a9;bx9e9;bx8e9;by9f9;by8f9;by7f9;bx9y9c9;c;cx9;cy9");
        edges.all("some of each", new long[] {vote.votes(0), vote.votes(1), vote.votes(2)}, 1, 2, 3);
        vote = edges.borough("bc9;c;c");
        edges.all("none", new long[] {vote.votes(0), vote.votes(1)}, 0, 0);

        edges.sentence("votes", "NONE: no such BOAT.");
        edges.bounds("votes", Scenes::rich, NONE, new int[] {0}, BOATS);
        edges.bounds("votes", QuestionEdges::two, NONE, new int[] {0}, EITHER);
        edges.beyond("votes", Scenes::noBorough, NONE, 0);
    }

    private void leader() {
        edges.sentence("leader", "LEADER.");
        edges.sentence("Terms", "LEADER: the BOAT to which most LEAN (one alone; all upright: none).");
        edges.due("one alone", edges.borough("sw0;bx0a9;c;cx9").leader(), 0);
        edges.due("two and one", edges.borough("sw0;bx0a9;bx9e9;bx8e9;c;cx9").leader(), 1);
        edges.due("one, one and two", edges.borough("sw0;bx0a9;by9e9;bx9f9;bx8f9;c;cy9;cx9").leader(), 2);
        edges.due("two, one and one", edges.borough("sw0;bx0a9;bx1a9;by9e9;bx9f9;c;cy9;cx9").leader(), 0);
        edges.due("none, none and one", edges.borough("sw0;bx9f9;c;cy9;cx9").leader(), 2);

        edges.sentence("leader", "NONE: several, none, no BOROUGH.");
        edges.due("one each", edges.borough("sw0;bx0a9;bx9e9;c;cx9").leader(), NONE);
        edges.due("one each of three", edges.borough("sw0;bx0a9;by9e9;bx9f9;c;cy9;cx9").leader(), NONE);
        edges.due("two, two and one", edges.borough("sw0;bx0a9;bx1a9;by8e9;by9e9;bx9f9;c;cy9;cx9").leader(), NONE);
        edges.due("two, one and two", edges.borough("sw0;bx0a9;bx1a9;by9e9;bx9f9;bx8f9;c;cy9;cx9").leader(), NONE);
        edges.due("one, two and two", edges.borough("sw0;bx0a9;by8e9;by9e9;bx9f9;bx8f9;c;cy9;cx9").leader(), NONE);
        edges.due("all upright", edges.borough("bc9;bx1c9;c;c;c").leader(), NONE);
        edges.beyond("leader", Scenes::noBorough, NONE);
        edges.beyond("leader", v -> { }, NONE);
    }

    private void ahead() {
        edges.sentence("ahead", "AHEAD.");
        edges.sentence("Terms", "AHEAD: to which BOAT a BUOY LEANS behind n (0 .. 60) HOURS.");
        BuoyVote vote = edges.borough("b;cv5;cv4");
        edges.rule(vote, "y:v=5&h=60|v=4&(h=0|h=1)?9;y:0");
        edges.all("AHEAD", new long[] {vote.ahead(0, 0), vote.ahead(0, 1), vote.ahead(0, 2), vote.ahead(0, 59),
            vote.ahead(0, 60)}, 1, 1, NONE, NONE, 0);
        vote.hours(60);
        edges.due("as it is", vote.ahead(0, 0), vote.buoy(0, 8));

        edges.sentence("ahead", "HIDDEN: no such BUOY, out of bounds (NONE: upright).");
        edges.due("upright", edges.borough("bc9;c;c").ahead(0, 60), NONE);
        edges.bounds("ahead", Scenes::rich, HIDDEN, new int[] {0, 0}, BUOYS, new int[] {0, 60});
        edges.beyond("ahead", Scenes::noBorough, HIDDEN, 0, 0);
        edges.beyond("ahead", Scenes::noBorough, HIDDEN, 0, 60);
    }

    private void soon() {
        edges.sentence("soon", "SOON.");
        edges.sentence("Terms", "SOON: how many HOURS a BOAT needs at least to a BUOY's place (AWAY by SPEED, rounded "
            + "up).");
        for (int speed = 1; speed <= 4; speed++) {
            for (int away = 0; away <= 18; away++) {
                int x = Math.min(away, 9);
                BuoyVote vote = edges.borough("bx" + x + "y" + (away - x) + ";c;cs" + speed);
                int hours = 0;
                vote.row(1, x, away - x);
                while (hours < 20 && (vote.boat(1, 0) != x || vote.boat(1, 1) != away - x)) {
                    vote.hours(1);
                    hours++;
                }
                BuoyVote same = edges.borough("bx" + x + "y" + (away - x) + ";c;cs" + speed);
                edges.due("soon " + away + " AWAY by " + speed, same.soon(1, 0), hours);
            }
        }
        BuoyVote vote = edges.borough("bx9y9;cs4;cs1");
        edges.all("the farthest", new long[] {vote.soon(0, 0), vote.soon(1, 0)}, 5, 18);

        edges.sentence("soon", "NONE: no such ones.");
        edges.bounds("soon", Scenes::rich, NONE, new int[] {0, 0}, BOATS, BUOYS);
        edges.bounds("soon", QuestionEdges::two, NONE, new int[] {0, 0}, EITHER, EITHER);
        edges.beyond("soon", Scenes::noBorough, NONE, 0, 0);
    }

    private void round() {
        edges.sentence("round", "ROUND: the order (0; 0 of none), HOURS (1).");
        edges.sentence("Terms", "ROUND of a BOAT for a set of BUOYS (bits): the order (digits; of several the least) "
            + "in which it has been at each place soonest (HOURS of all legs, from each place to the next: AWAY by "
            + "SPEED, rounded up, together least); HOURS.");
        BuoyVote vote = edges.borough("bx0;bx8;bx4;cx4s4;cx9s1");
        rounds(vote, 0, 0, 0, 0);
        rounds(vote, 0, 1, 0, 1);
        rounds(vote, 0, 2, 1, 1);
        rounds(vote, 0, 4, 2, 0);
        // 01 and 10 take 1 + 2 each; 021, 120, 201 and 210 take 3, the others 4.
        rounds(vote, 0, 3, 1, 3);
        rounds(vote, 0, 7, 21, 3);
        rounds(vote, 1, 3, 10, 9);
        rounds(vote, 1, 7, 120, 9);
        // Each leg takes one HOUR: all orders are alike.
        vote = edges.borough("b;bx1;bx2;bx3;cy1s4;c");
        rounds(vote, 0, 15, 123, 4);
        rounds(vote, 0, 14, 123, 3);
        rounds(vote, 0, 10, 13, 2);
        // Legs of 1 cell by SPEED 2 take an HOUR each: rounded up one by one, not together.
        vote = edges.borough("bx1;bx2;bx3;bx4;cs2;cs1");
        rounds(vote, 0, 15, 123, 4);
        rounds(vote, 1, 15, 123, 4);
        rounds(vote, 0, 5, 2, 2);
        vote = edges.borough("bx7;bx6;bx5;bx4;bx3;bx2;bx1;bx0;cs1;cx9s1");
        rounds(vote, 0, 255, 76543210, 7);
        rounds(vote, 1, 255, 1234567, 9);
        rounds(vote, 1, 128, 7, 9);

        for (String borough : BOROUGHS) {
            vote = edges.borough(borough);
            for (int set = 0; set < 1 << vote.count(0); set += set % 8 == 7 ? 9 : 1) {
                for (int boat = 0; boat < 2; boat++) {
                    long least = leastRound(vote, boat, vote.boat(boat, 0), vote.boat(boat, 1), set, 0, 0);
                    rounds(edges.borough(borough), boat, set, (int) (least % 100000000), (int) (least / 100000000));
                }
            }
        }

        edges.sentence("round", "NONE: no such ones (bits of BUOYS).");
        edges.bounds("round", Scenes::rich, NONE, new int[] {0, 1, 0}, BOATS, new int[] {0, 7}, EITHER);
        edges.bounds("round", v -> Scenes.full(v, ""), NONE, new int[] {0, 1, 1}, BOATS, new int[] {0, 255}, EITHER);
        edges.bounds("round", v -> Scenes.tell(v, 0, "b;c;c"), NONE, new int[] {0, 0, 0}, EITHER, new int[] {0, 1}, EITHER);
        edges.beyond("round", Scenes::noBorough, NONE, 0, 0, 0);
        edges.beyond("round", Scenes::noBorough, NONE, 0, 0, 1);
    }

    /** HOURS times 10 to the 8 and the order, the least of all orders. */
    private static long leastRound(BuoyVote vote, int boat, int x, int y, int left, long hours, long order) {
        long least = left == 0 ? hours * 100000000 + order : Long.MAX_VALUE;
        for (int next = 0; next < 8; next++) {
            if ((left >> next & 1) != 0) {
                int toX = vote.buoy(next, 0);
                int toY = vote.buoy(next, 1);
                int away = Math.abs(toX - x) + Math.abs(toY - y);
                int speed = vote.boat(boat, 2);
                least = Math.min(least, leastRound(vote, boat, toX, toY, left & ~(1 << next),
                    hours + away / speed + (away % speed == 0 ? 0 : 1), order * 10 + next));
            }
        }
        return least;
    }

    private void rounds(BuoyVote vote, int boat, int set, int order, int hours) {
        edges.all("ROUND of " + boat + " for " + set, new long[] {vote.round(boat, set, 0), vote.round(boat, set, 1)},
            order, hours);
    }

    private void best() {
        edges.sentence("best", "BEST PLACE: the place (0), how many (1).");
        edges.sentence("Terms", "BEST PLACE of a BOAT: 10 times y and x, where most BUOYS would LEAN to it in this "
            + "HOUR, all others where they are (of several the least); how many.");
        for (int x = 0; x <= 9; x++) {
            for (int y = 0; y <= 9; y++) {
                BuoyVote vote = edges.borough("bx" + x + "y" + y + "c9;cv9;c");
                edges.rule(vote, "y:v-d");
                edges.all("just there", new long[] {vote.best(0, 0), vote.best(0, 1), vote.best(1, 0), vote.best(1, 1)},
                    10 * y + x, 1, 0, 0);
            }
        }
        BuoyVote vote = edges.borough(EIGHT + "cx8y8v9;cx9y9v0;cx9y9v0");
        edges.rule(vote, "y:v");
        edges.all("all of them", new long[] {vote.best(0, 0), vote.best(0, 1), vote.best(2, 1)}, 0, 8, 0);
        // BOAT 1 is at x 5: BOAT 0 must be nearer than it, and is by x 1 on, at y 0.
        vote = edges.borough("bx3c0;cx9y9v9;cx5v9");
        edges.rule(vote, "y:v-d");
        edges.all("others where they are", new long[] {vote.best(0, 0), vote.best(0, 1)}, 2, 1);
        vote = edges.borough("bx3c5;c;cv4");
        edges.rule(vote, "y:v=3&h=1?9-d");
        edges.all("not in this HOUR", new long[] {vote.best(0, 0), vote.best(0, 1)}, 0, 0);
        vote.hours(1);
        edges.all("in this HOUR", new long[] {vote.best(0, 0), vote.best(0, 1)}, 0, 1);
        // No place is more than 18 AWAY from a corner: none beyond the cells is looked at.
        for (String corner : new String[] {"b", "bx9", "by9", "bx9y9"}) {
            vote = edges.borough(corner + ";cx5y5v9;cx5y5");
            edges.rule(vote, "y:v=9&d>18?9;y:0");
            edges.all("beyond the cells", new long[] {vote.best(0, 0), vote.best(0, 1)}, 0, 0);
            edges.rule(vote, "y:v=9&d=18?9;y:0");
            edges.due("in the other corner", vote.best(0, 0), 99 - 10 * vote.buoy(0, 1) - vote.buoy(0, 0));
        }

        edges.sentence("best", "NONE: no such ones.");
        edges.bounds("best", Scenes::rich, NONE, new int[] {0, 0}, BOATS, EITHER);
        edges.bounds("best", QuestionEdges::two, NONE, new int[] {0, 1}, EITHER, EITHER);
        edges.beyond("best", Scenes::noBorough, NONE, 0, 0);
        edges.beyond("best", Scenes::noBorough, NONE, 0, 1);
    }

    private void game() {
        edges.sentence("game", "GAME: how many LEAN to the first (0), the second (1).");
        edges.sentence("Terms", "GAME of two BOATS: they are at the places of BUOYS x, y in this HOUR: how many LEAN "
            + "to a BOAT.");
        BuoyVote vote = edges.borough("sw0;bc0;bx9c0;bx9y9c0;cx5y5v9;cx4y4v9;cx9y9v0");
        edges.rule(vote, "y:v-d");
        edges.all("0 and 1 at BUOYS 0 and 2", new long[] {vote.game(0, 1, 0, 2, 0), vote.game(0, 1, 0, 2, 1),
            vote.game(1, 0, 0, 2, 0), vote.game(1, 0, 0, 2, 1)}, 1, 1, 1, 1);
        edges.all("0 and 1 at one BUOY", new long[] {vote.game(0, 1, 1, 1, 0), vote.game(0, 1, 1, 1, 1)}, 0, 0);
        edges.all("0 and 2 at one BUOY", new long[] {vote.game(0, 2, 1, 1, 0), vote.game(0, 2, 1, 1, 1)}, 2, 0);
        vote = edges.borough(EIGHT + "cv9;cv0");
        edges.all("all", new long[] {vote.game(0, 1, 7, 7, 0), vote.game(1, 0, 7, 7, 1), vote.game(1, 0, 7, 7, 0)}, 8, 8, 0);

        edges.sentence("game", "NONE: no such ones, one alone.");
        edges.bounds("game", Scenes::rich, NONE, new int[] {1, 0, 0, 0, 0}, new int[] {1, 2}, new int[] {0, 0}, BUOYS, BUOYS,
            EITHER);
        edges.bounds("game", Scenes::rich, NONE, new int[] {0, 1, 2, 2, 1}, new int[] {0, 0}, new int[] {1, 2}, BUOYS, BUOYS,
            EITHER);
        for (int boat = 0; boat < 3; boat++) {
            edges.beyond("game", Scenes::rich, NONE, boat, boat, 0, 1, 0);
        }
        edges.beyond("game", QuestionEdges::two, NONE, 0, 2, 0, 0, 0);
        edges.beyond("game", QuestionEdges::two, NONE, 2, 0, 0, 0, 0);
        edges.beyond("game", Scenes::noBorough, NONE, 0, 1, 0, 0, 0);
    }

    private void rests() {
        edges.sentence("rests", "RESTS: how many (i NONE), the i-th.");
        edges.sentence("Terms", "RESTS: 10 times x and y by which neither has more at another BUOY: how many, the "
            + "i-th (rising).");
        BuoyVote vote = edges.borough("b;c;c");
        edges.all("one BUOY", new long[] {vote.rests(0, 1, NONE), vote.rests(0, 1, 0), vote.rests(0, 1, 1)}, 1, 0, NONE);
        vote = edges.borough(EIGHT + "cv9;cv0");
        edges.rule(vote, "y:v");
        edges.due("all places", vote.rests(0, 1, NONE), 64);
        for (int i = 0; i < 64; i++) {
            edges.due("rests(0, 1, " + i + ")", vote.rests(0, 1, i), 10 * (i / 8) + i % 8);
        }
        edges.due("no more", vote.rests(0, 1, 64), NONE);
        // BUOY 1 alone can be had, by who is there and the other is not.
        vote = edges.borough("bc9;bx9c3;c;c");
        edges.rule(vote, "y:v-d");
        edges.all("some places", new long[] {vote.rests(0, 1, NONE), vote.rests(0, 1, 0), vote.rests(0, 1, 1),
            vote.rests(0, 1, 2), vote.rests(0, 1, 3)}, 3, 1, 10, 11, NONE);
        // BOAT 0 follows, BOAT 1 flees.
        vote = edges.borough("bc0;bx9c0;cv9;cv8");
        edges.rule(vote, "y:v-d");
        edges.due("no place", vote.rests(0, 1, NONE), 0);
        edges.due("none is the first", vote.rests(0, 1, 0), NONE);

        for (String borough : BOROUGHS) {
            for (int pair = 0; pair < 6; pair++) {
                int one = pair / 2;
                int other = pair % 2 == 0 ? (one + 1) % 3 : (one + 2) % 3;
                if (Edges.after(v -> Scenes.tell(v, 0, borough)).game(one, other, 0, 0, 0) != NONE) {
                    restsAndHolds(borough, one, other);
                }
            }
        }

        edges.sentence("rests", "NONE: no such one, as for GAME.");
        edges.bounds("rests", v -> Scenes.tell(v, 0, EIGHT + "cv9;cv0;cv0"), NONE, new int[] {1, 0, NONE}, new int[] {1, 2},
            new int[] {0, 0}, new int[] {NONE, 63});
        edges.bounds("rests", v -> Scenes.tell(v, 0, EIGHT + "cv9;cv0;cv0"), NONE, new int[] {0, 1, 0}, new int[] {0, 0},
            new int[] {1, 2}, new int[] {NONE, 63});
        for (int boat = 0; boat < 3; boat++) {
            edges.beyond("rests", Scenes::rich, NONE, boat, boat, NONE);
            edges.beyond("rests", Scenes::rich, NONE, boat, boat, 0);
        }
        edges.beyond("rests", QuestionEdges::two, NONE, 0, 2, NONE);
        edges.beyond("rests", QuestionEdges::two, NONE, 2, 0, NONE);
        edges.beyond("rests", Scenes::noBorough, NONE, 0, 1, NONE);
        edges.beyond("rests", Scenes::noBorough, NONE, 0, 1, 0);
    }

    /** Against all GAMES of the two, each asked by itself. */
    private void restsAndHolds(String borough, int one, int other) {
        BuoyVote games = edges.borough(borough);
        int buoys = games.count(0);
        int[][][] lean = new int[buoys][buoys][2];
        for (int x = 0; x < buoys; x++) {
            for (int y = 0; y < buoys; y++) {
                lean[x][y][0] = games.game(one, other, x, y, 0);
                lean[x][y][1] = games.game(one, other, x, y, 1);
            }
        }
        BuoyVote vote = edges.borough(borough);
        int found = 0;
        int place = 0;
        int most = -9;
        for (int x = 0; x < buoys; x++) {
            int worst = 9;
            for (int y = 0; y < buoys; y++) {
                boolean rests = true;
                for (int z = 0; z < buoys; z++) {
                    rests &= lean[z][y][0] <= lean[x][y][0] && lean[x][z][1] <= lean[x][y][1];
                }
                if (rests) {
                    edges.due("rests(" + one + ", " + other + ", " + found + ")", vote.rests(one, other, found), 10 * x + y);
                    found++;
                }
                worst = Math.min(worst, lean[x][y][0] - lean[x][y][1]);
            }
            if (worst > most) {
                most = worst;
                place = x;
            }
        }
        edges.due("rests(" + one + ", " + other + ", NONE)", vote.rests(one, other, NONE), found);
        edges.all("holds(" + one + ", " + other + ")", new long[] {edges.borough(borough).holds(one, other, 0),
            edges.borough(borough).holds(one, other, 1)}, place, most);
    }

    private void holds() {
        edges.sentence("holds", "HOLDS: the BUOY (0), that (1).");
        edges.sentence("Terms", "HOLDS of a BOAT against another: the BUOY at which it has, by the worst place of the "
            + "other at a BUOY for it, the most LEAN to it less those to the other (of several the lowest); that.");
        BuoyVote vote = edges.borough(EIGHT + "cv9;cv0");
        edges.rule(vote, "y:v");
        edges.all("all against none", new long[] {vote.holds(0, 1, 0), vote.holds(0, 1, 1), vote.holds(1, 0, 0),
            vote.holds(1, 0, 1)}, 0, 8, 0, -8);
        // On one line at 0, 3, 6, 9 with CHAINS of 0: at 3 or at 6 none has more, at 0 and at 9 one has less.
        vote = edges.borough("bc0;bx3c0;bx6c0;bx9c0;cv9;cv9");
        edges.rule(vote, "y:v-d");
        edges.all("of several the lowest", new long[] {vote.holds(0, 1, 0), vote.holds(0, 1, 1)}, 1, 0);
        vote = edges.borough("bx9c0;bx6c0;b c0;bx3c0;cv9;cv9");
        edges.rule(vote, "y:v-d");
        edges.all("the lowest of others", new long[] {vote.holds(0, 1, 0), vote.holds(0, 1, 1)}, 1, 0);
        vote = edges.borough("b;c;c");
        edges.all("one BUOY", new long[] {vote.holds(0, 1, 0), vote.holds(0, 1, 1)}, 0, 0);
        // The louder in the middle has two against one, all three against the other in the middle.
        vote = edges.borough("bc0;bx2c0;bx4c0;cv8;cv9");
        edges.rule(vote, "y:v-d");
        edges.all("two against one", new long[] {vote.holds(1, 0, 0), vote.holds(1, 0, 1)}, 1, 1);
        // BOAT 2 stays where it is and keeps the BUOY there.
        vote = edges.borough("sw0;b;bx9y9;cx5;cx5;cv9");
        edges.all("with a third", new long[] {vote.holds(0, 1, 0), vote.holds(0, 1, 1), vote.rests(0, 1, NONE),
            vote.rests(0, 1, 0), vote.rests(0, 1, 1), vote.rests(0, 1, 2)}, 1, 0, 3, 1, 10, 11);

        edges.sentence("holds", "HIDDEN: no such ones, one alone.");
        edges.bounds("holds", Scenes::rich, HIDDEN, new int[] {1, 0, 0}, new int[] {1, 2}, new int[] {0, 0}, EITHER);
        edges.bounds("holds", Scenes::rich, HIDDEN, new int[] {0, 1, 1}, new int[] {0, 0}, new int[] {1, 2}, EITHER);
        for (int boat = 0; boat < 3; boat++) {
            edges.beyond("holds", Scenes::rich, HIDDEN, boat, boat, 0);
            edges.beyond("holds", Scenes::rich, HIDDEN, boat, boat, 1);
        }
        edges.beyond("holds", QuestionEdges::two, HIDDEN, 0, 2, 0);
        edges.beyond("holds", QuestionEdges::two, HIDDEN, 2, 0, 1);
        edges.beyond("holds", Scenes::noBorough, HIDDEN, 0, 1, 0);
        edges.beyond("holds", Scenes::noBorough, HIDDEN, 0, 1, 1);
    }

    private void seen() {
        edges.sentence("seen", "SEEN: how many there are.");
        edges.sentence("Terms", "SEEN (10 at most): a BUOY, as told, LEANED to BOAT 0, to 1, or stayed upright (2), "
            + "as these two were d, e (0 .. 18) AWAY, with CHAIN as told, VOICE as told, without PUSH, BARNACLES and "
            + "other BOATS (DRAW by the LAW that holds, in HOUR 0).");
        BuoyVote vote = edges.borough("b;bx1;c;c");
        for (int i = 1; i <= 10; i++) {
            edges.due("seen", vote.seen(i % 2, i % 2 * 18, 18 - i % 2 * 18, i % 3), i);
            edges.due("count(10)", vote.count(10), i);
        }
        edges.due("no ACT", vote.count(12), 0);
        // WIND, TIDE, BARNACLES, a third BOAT and the HOUR count for nothing: 3 and a less 9 is no less than 3 by a 9 alone.
        vote = edges.borough("sw9;bx5a4e4o1r9c3;cx9;cx9y9;cx5v9");
        vote.hours(9);
        vote.seen(0, 9, 18, 0);
        edges.all("without all else", new long[] {vote.likes(0, NONE), vote.likes(0, 0), vote.likes(0, 9)}, 10, 90, 99);
        edges.rule(vote, "y:h*9+p*9+r*9");
        edges.due("nothing but 0 by these", vote.likes(0, NONE), 0);
        for (int to = 0; to < 3; to++) {
            BuoyVote other = edges.borough("sw9;bx5a4e4o1r9c3;cx9;cx9y9;cx5v9");
            other.hours(9);
            edges.rule(other, "y:h*9+p*9+r*9");
            other.seen(0, 9, 18, to);
            edges.due("HOUR 0, no PUSH, no BARNACLES: upright", other.likes(0, NONE), to == 2 ? 100 : 0);
        }
        vote.law(NONE);
        edges.due("by the LAW that holds", vote.likes(0, NONE), 10);

        edges.sentence("seen", "NONE: no such ones, out of bounds, there are ten.");
        edges.bounds("seen", Scenes::rich, NONE, new int[] {0, 0, 0, 0}, BUOYS, new int[] {0, 18}, new int[] {0, 18},
            new int[] {0, 2});
        edges.beyond("seen", Scenes::noBorough, NONE, 0, 0, 0, 0);
        for (int to = 0; to < 3; to++) {
            edges.beyond("seen", v -> Scenes.full(v, ""), NONE, to, 3, 3, to);
        }
    }

    private void likes() {
        edges.sentence("likes", "LIKES: how many (i NONE), the i-th.");
        edges.sentence("Terms", "LIKES of a BUOY: 10 times LIKING of 0 and that of 1 (0 .. 9) by which all SEEN of it "
            + "is so: how many, the i-th (rising).");
        BuoyVote vote = edges.borough("b;bx1;c;c");
        edges.due("nothing SEEN", vote.likes(0, NONE), 100);
        for (int i = 0; i < 100; i++) {
            edges.due("likes(0, " + i + ")", vote.likes(0, i), i);
        }
        // VOICES 3, CHAIN 3: to BOAT 1 with 9 AWAY by a LIKING of 9 alone.
        liked("1 by nine", 18, 9, 1, 9, 19, 29, 39, 49, 59, 69, 79, 89, 99);
        liked("0 by nine", 9, 18, 0, 90, 91, 92, 93, 94, 95, 96, 97, 98, 99);
        liked("0 by ten", 10, 18, 0);
        liked("1 by ten", 18, 10, 1);
        liked("upright never", 0, 18, 2);
        // As much as the other: upright, the CHAIN being no hindrance; 9 AWAY from both: below it but for nine.
        liked("alike", 0, 0, 2, 0, 11, 22, 33, 44, 55, 66, 77, 88, 99);
        edges.due("upright always", seenBy(10, 10, 2).likes(0, NONE), 100);
        edges.due("0 by more", seenBy(0, 0, 0).likes(0, NONE), 45);
        edges.due("1 by more", seenBy(0, 0, 1).likes(0, NONE), 45);
        vote = seenBy(0, 0, 0);
        vote.seen(0, 1, 0, 2);
        edges.all("all of it", new long[] {vote.likes(0, NONE), vote.likes(0, 0), vote.likes(0, 8), vote.likes(0, 9)},
            9, 10, 98, NONE);

        edges.sentence("likes", "NONE: no such one, no such BUOY.");
        // In that scene it LEANED to BOAT 0 by 4 + a - 3 against 5 + e - 3: 36 pairs with a of e + 2 at least.
        edges.bounds("likes", Scenes::rich, NONE, new int[] {0, NONE}, BUOYS, new int[] {NONE, 35});
        edges.bounds("likes", v -> Scenes.tell(v, 0, "b;bx1;bx2;c;c"), NONE, new int[] {0, 0}, BUOYS, new int[] {NONE, 99});
        edges.beyond("likes", v -> {
            Scenes.tell(v, 0, "b;c;c");
            v.seen(0, 10, 18, 0);
        }, NONE, 0, 0);
        edges.beyond("likes", Scenes::noBorough, NONE, 0, NONE);
        edges.beyond("likes", Scenes::noBorough, NONE, 0, 0);
    }

    private BuoyVote seenBy(int d, int e, int to) {
        BuoyVote vote = edges.borough("b;c;c");
        edges.due("seen", vote.seen(0, d, e, to), 1);
        return vote;
    }

    private void liked(String name, int d, int e, int to, int... pairs) {
        BuoyVote vote = seenBy(d, e, to);
        edges.due(name + ": how many", vote.likes(0, NONE), pairs.length);
        for (int i = 0; i < pairs.length; i++) {
            edges.due(name + " [" + i + "]", vote.likes(0, i), pairs[i]);
        }
        edges.due(name + ": no more", vote.likes(0, pairs.length), NONE);
    }

    private void ask() {
        edges.sentence("ask", "LOOK.");
        edges.sentence("Terms", "LOOK at a BUOY: the d (0 .. 9), with e 3, by which the answer that most of these "
            + "would give is given by the fewest (of several the least).");
        // BOAT 1 (VOICE 4) has 5; at that d alone BOAT 0 has 9 or 0, half and half, else 0.
        for (int d = 0; d <= 9; d++) {
            BuoyVote vote = edges.borough("bc0;cv5;cv4");
            edges.rule(vote, "y:v=5&d=" + d + "&l>4?9;y:v=4?5;y:0");
            edges.due("ask by d " + d, vote.ask(0), d);
        }
        BuoyVote vote = edges.borough("bc0;cv5;cv4");
        edges.rule(vote, "y:v=5&d=10&l>4?9;y:v=4?5;y:0");
        edges.due("not by d 10", vote.ask(0), 0);
        edges.rule(vote, "y:0");
        edges.due("of several the least", vote.ask(0), 0);
        edges.rule(vote, "y:v=5&(d=4|d=7)&l>4?9;y:v=4?5;y:0");
        edges.due("of two the least", vote.ask(0), 4);
        // With another e than 3 BOAT 1 has 9, whatever BOAT 0 has.
        edges.rule(vote, "y:v=4&!d=3?9;y:v=5&d=7&l>4?8;y:v=4?5;y:0");
        edges.due("with e 3", vote.ask(0), 7);
        for (int chain = 0; chain <= 9; chain++) {
            for (int voice = 0; voice <= 9; voice++) {
                for (int to = 0; to < 3; to++) {
                    looks(chain, voice, to);
                }
            }
        }
        vote = seenBy(18, 9, 1);
        vote.seen(0, 9, 18, 0);
        edges.all("one pair fits", new long[] {vote.likes(0, NONE), vote.ask(0)}, 1, 0);

        edges.sentence("ask", "NONE: nothing fits, no such BUOY.");
        edges.beyond("ask", v -> {
            Scenes.tell(v, 0, "b;c;c");
            v.seen(0, 10, 18, 0);
        }, NONE, 0);
        edges.bounds("ask", v -> Scenes.tell(v, 0, "b;bx1;bx2;c;c"), NONE, new int[] {0}, BUOYS);
        edges.beyond("ask", Scenes::noBorough, NONE, 0);
    }

    /** LOOK by all pairs of LIKINGS one by one, SEEN with 2 and 4 AWAY; VOICE 5 of BOAT 1. */
    private void looks(int chain, int voice, int to) {
        BuoyVote vote = edges.borough("bc" + chain + ";cv" + voice + ";cv5");
        vote.seen(0, 2, 4, to);
        int best = NONE;
        int fewest = 101;
        for (int d = 0; d <= 9; d++) {
            int[] given = new int[3];
            for (int pair = 0; pair < 100; pair++) {
                if (told(chain, voice + pair / 10 - 2, 5 + pair % 10 - 4) == to) {
                    given[told(chain, voice + pair / 10 - d, 5 + pair % 10 - 3)]++;
                }
            }
            int most = Math.max(given[0], Math.max(given[1], given[2]));
            if (most > 0 && most < fewest) {
                fewest = most;
                best = d;
            }
        }
        edges.due("ask, CHAIN " + chain + ", VOICE " + voice + ", SEEN " + to, vote.ask(0), best);
    }

    private static int told(int chain, int one, int other) {
        return one > other && one >= chain ? 0 : other > one && other >= chain ? 1 : 2;
    }

    private void blown() {
        edges.sentence("blown", "WIND OR LIKING.");
        edges.sentence("Terms", "WIND OR LIKING for n, k (0 .. 18, k no more than n): k times of n a BUOY LEANED as "
            + "the WIND blew: of 10 to the 6 parts that it was by WIND: by WIND it does so in 8 of ten, by LIKING in 5 "
            + "of ten, both alike likely (cut).");
        BuoyVote vote = new BuoyVote();
        for (int n = 0; n <= 18; n++) {
            for (int k = 0; k <= n; k++) {
                BigInteger wind = BigInteger.valueOf(8).pow(k).multiply(BigInteger.valueOf(2).pow(n - k));
                BigInteger liking = BigInteger.valueOf(5).pow(n);
                BigInteger share = wind.multiply(BigInteger.valueOf(1000000)).divide(wind.add(liking));
                edges.due("blown(" + n + ", " + k + ")", vote.blown(n, k), share.intValue());
            }
        }
        edges.all("by hand", new long[] {vote.blown(0, 0), vote.blown(1, 0), vote.blown(1, 1), vote.blown(2, 2)},
            500000, 285714, 615384, 719101);

        edges.sentence("blown", "NONE: out of bounds.");
        edges.bounds("blown", Scenes::rich, NONE, new int[] {18, 0}, new int[] {0, 18}, new int[] {0, 18});
        edges.bounds("blown", v -> { }, NONE, new int[] {5, 5}, new int[] {5, 18}, new int[] {0, 5});
        for (int n = -2; n <= 18; n++) {
            edges.beyond("blown", Scenes::noBorough, NONE, n, n + 1);
            edges.beyond("blown", Scenes::noBorough, NONE, n, -1);
        }
        edges.beyond("blown", Scenes::noBorough, NONE, 19, 19);
        edges.beyond("blown", Scenes::noBorough, NONE, 19, 0);
    }

    private void washed() {
        edges.sentence("washed", "WASHED: how many (i NONE), the i-th.");
        edges.sentence("Terms", "WASHED for a, b (0 .. 8): sets of up to two BUOYS (bits) that a liner's wash took "
            + "over from the one to the other of BOATS 0, 1 so that a LEAN to 0 and b to 1 now");
        BuoyVote vote = edges.borough(EIGHT + "cx4v9;cx9y9v0");
        edges.all("nothing washed", washed(vote, 8, 0), 0);
        edges.all("one", washed(vote, 7, 1), 1, 2, 4, 8, 16, 32, 64, 128);
        edges.all("two", washed(vote, 6, 2), 3, 5, 6, 9, 10, 12, 17, 18, 20, 24, 33, 34, 36, 40, 48, 65, 66, 68, 72, 80, 96, 129,
            130, 132, 136, 144, 160, 192);
        edges.all("three", washed(vote, 5, 3));
        edges.all("not all are told", washed(vote, 7, 0));
        edges.all("too many", washed(vote, 8, 8));
        edges.sentence("Terms", "as they LEAN now but those of the set that LEAN to 0 then to 1, and the other way "
            + "(only such can be in it): how many, the i-th (rising)");
        // To 0 LEANS BUOY 0, to 1 BUOYS 1 and 2, to 2 BUOY 3, BUOY 4 is upright.
        vote = edges.borough("sw0;bx0a9;bx9e9;bx8e9;by9f9;bx9y9c9;c;cx9;cy9");
        edges.all("as they LEAN, or one each way", washed(vote, 1, 2), 0, 3, 5);
        edges.all("one to 0", washed(vote, 2, 1), 2, 4);
        edges.all("two to 0", washed(vote, 3, 0), 6);
        edges.all("one to 1", washed(vote, 0, 3), 1);
        edges.all("none of BOAT 2", washed(vote, 2, 2));
        vote = edges.borough("bc9;c;c");
        edges.all("all upright", washed(vote, 0, 0), 0);

        edges.sentence("washed", "NONE: no such one, no BOROUGH, out of bounds.");
        edges.bounds("washed", Scenes::rich, NONE, new int[] {0, 0, NONE}, new int[] {0, 8}, new int[] {0, 8},
            new int[] {NONE, NONE});
        edges.bounds("washed", v -> Scenes.tell(v, 0, EIGHT + "cx4v9;cx9y9v0"), NONE, new int[] {6, 2, 0}, new int[] {6, 6},
            new int[] {2, 2}, new int[] {NONE, 27});
        edges.beyond("washed", v -> Scenes.tell(v, 0, EIGHT + "cx4v9;cx9y9v0"), NONE, 5, 3, 0);
        edges.beyond("washed", Scenes::noBorough, NONE, 0, 0, NONE);
        edges.beyond("washed", Scenes::noBorough, NONE, 0, 0, 0);
    }

    private long[] washed(BuoyVote vote, int a, int b) {
        long[] sets = new long[vote.washed(a, b, NONE)];
        for (int i = 0; i < sets.length; i++) {
            sets[i] = vote.washed(a, b, i);
        }
        edges.due("washed(" + a + ", " + b + "): no more", vote.washed(a, b, sets.length), NONE);
        return sets;
    }

    private void watch() {
        edges.sentence("watch", "WATCH, as bits.");
        edges.sentence("Terms", "WATCH for r (0 .. 18): the fewest BUOYS (bits; of several the least) by which each "
            + "BUOY is no more than r AWAY from one of them.");
        BuoyVote vote = edges.borough("b;bx9y9;c;c");
        for (int r = 0; r <= 18; r++) {
            edges.due("two 18 AWAY, watch(" + r + ")", vote.watch(r), r < 18 ? 3 : 1);
        }
        vote = edges.borough("b;bx1;bx2;bx3;bx4;bx5;bx6;bx7;c;c");
        // By 1 AWAY from 0, 3 and 6, by 2 from 0 and 5, by 3 from 0 and 4, by 4 from 3, by 6 from 1.
        edges.all("eight on a line", new long[] {vote.watch(0), vote.watch(1), vote.watch(2), vote.watch(3), vote.watch(4),
            vote.watch(6), vote.watch(7), vote.watch(18)}, 255, 1 + 8 + 64, 1 + 32, 1 + 16, 8, 2, 1, 1);
        vote = edges.borough("bx5y5;c;c");
        edges.all("one", new long[] {vote.watch(0), vote.watch(18)}, 1, 1);
        vote = edges.borough("bx8y9;bx9y9;c;c");
        edges.all("far from all else", new long[] {vote.watch(0), vote.watch(1)}, 3, 1);

        edges.sentence("watch", "NONE: no BOROUGH, out of bounds.");
        edges.bounds("watch", Scenes::rich, NONE, new int[] {0}, new int[] {0, 18});
        edges.beyond("watch", Scenes::noBorough, NONE, 0);
        edges.beyond("watch", Scenes::noBorough, NONE, 18);
    }

    private void fair() {
        edges.sentence("fair", "FAIR: HOURS (0), how far apart (1).");
        edges.sentence("Terms", "FAIR for n (1 .. 60): behind how many HOURS (0 .. n) those who LEAN to BOAT 0 and 1 "
            + "are least apart in number (of several the soonest); how far apart.");
        BuoyVote vote = edges.borough("b;cv5;cv4");
        edges.rule(vote, "y:v=5&h<60?9;y:0");
        edges.all("at the very end", new long[] {vote.fair(1, 0), vote.fair(1, 1), vote.fair(59, 0), vote.fair(59, 1),
            vote.fair(60, 0), vote.fair(60, 1)}, 0, 1, 0, 1, 60, 0);
        edges.rule(vote, "y:v=4&!h=1?9;y:0");
        edges.all("the other way", new long[] {vote.fair(1, 0), vote.fair(1, 1), vote.fair(60, 0)}, 1, 0, 1);
        edges.rule(vote, "y:v=4&(h=0|h=1|h=3)?9;y:0");
        edges.all("the soonest", new long[] {vote.fair(1, 0), vote.fair(2, 0), vote.fair(60, 0), vote.fair(60, 1)}, 0, 2, 2, 0);
        // BOAT 2 has two, BOATS 0 and 1 one each: 0 apart.
        vote = edges.borough("sw0;bx0a9;by9e9;bx9f9;bx8f9;c;cy9;cx9");
        edges.all("without BOAT 2", new long[] {vote.fair(1, 0), vote.fair(1, 1)}, 0, 0);
        vote = edges.borough(EIGHT + "cx4v9;cx9y9v0");
        edges.all("all apart", new long[] {vote.fair(60, 0), vote.fair(60, 1)}, 0, 8);

        edges.sentence("fair", "NONE: no BOROUGH, out of bounds.");
        edges.bounds("fair", Scenes::rich, NONE, new int[] {1, 0}, new int[] {1, 60}, EITHER);
        edges.beyond("fair", Scenes::noBorough, NONE, 1, 0);
        edges.beyond("fair", Scenes::noBorough, NONE, 60, 1);
    }

    private void loose() {
        edges.sentence("buoys", "LOOSE (0), FAITHFUL (1), as bits.");
        edges.sentence("Terms", "LOOSE: BUOYS (bits) with a CHAIN that is no more than WIND.");
        BuoyVote vote = edges.borough("sw0;bc0;bx1c1;bx2c2;bx3c3;bx4c7;bx5c8;bx6c9;bx7c9;c;c");
        int[] want = {1, 3, 7, 15, 15, 15, 15, 31, 63, 255};
        for (int wind = 0; wind <= 9; wind++) {
            vote.wind(wind, 0);
            edges.due("LOOSE by " + wind, vote.buoys(0), want[wind]);
        }

        edges.sentence("buoys", "NONE: no BOROUGH, no such what.");
        edges.bounds("buoys", Scenes::rich, NONE, new int[] {0}, EITHER);
        edges.beyond("buoys", Scenes::noBorough, NONE, 0);
        edges.beyond("buoys", Scenes::noBorough, NONE, 1);
    }

    private void faithful() {
        edges.sentence("Terms", "FAITHFUL: BUOYS (bits) that LEAN to their OLD vote.");
        edges.due("LEANS to it", edges.borough("bo1r9;c;c").buoys(1), 1);
        edges.due("LEANS to another", edges.borough("bo1r0;cv9;c").buoys(1), 0);
        edges.due("upright", edges.borough("bo1r0c9;c;c").buoys(1), 0);
        edges.due("upright, no OLD vote", edges.borough("bc9;c;c").buoys(1), 0);
        edges.due("LEANS, no OLD vote", edges.borough("b;cv9;c").buoys(1), 0);
        BuoyVote vote = edges.borough(EIGHT + "cx4v9;cx9y9v0");
        edges.due("none yet", vote.buoys(1), 0);
        vote.hours(8);
        edges.due("all of them", vote.buoys(1), 255);
    }

    private void sways() {
        edges.sentence("sways", "SWAYS (0), EDGE (1).");
        edges.sentence("Terms", "SWAYS of a BUOY: how much less than its CHAIN the greatest DRAW is (below 0: it "
            + "LEANS or two are alike).");
        for (int chain = 0; chain <= 9; chain++) {
            for (int voice = 0; voice <= 9; voice++) {
                BuoyVote vote = edges.borough("bc" + chain + ";cv0;cv" + voice + ";cv0");
                edges.due("SWAYS, CHAIN " + chain + ", DRAW " + voice, vote.sways(0, 0), chain - voice);
                edges.due("EDGE, DRAW " + voice, vote.sways(0, 1), voice);
            }
        }
        BuoyVote vote = edges.borough("bc9;c;c");
        edges.rule(vote, "y:0-9999");
        edges.due("the most", vote.sways(0, 0), 108);
        edges.rule(vote, "y:9999");
        edges.due("the least", vote.sways(0, 0), -90);
        edges.sentence("Terms", "EDGE of a BUOY: by how much the greatest DRAW is more than the next one.");
        edges.due("two alike", vote.sways(0, 1), 0);
        edges.due("two alike of three", edges.borough("b;cv7;cv2;cv7").sways(0, 1), 0);
        edges.due("the third is next", edges.borough("b;cv7;cv2;cv6").sways(0, 1), 1);
        edges.due("the first is next", edges.borough("b;cv5;cv2;cv9").sways(0, 1), 4);
        edges.due("the second is next", edges.borough("b;cv2;cv5;cv9").sways(0, 1), 4);
        vote = edges.borough("b;cv9;cv0");
        edges.rule(vote, "y:v*9999-[9-v]*9999");
        edges.due("the most", vote.sways(0, 1), 198);

        edges.sentence("sways", "HIDDEN: no such ones.");
        edges.bounds("sways", Scenes::rich, HIDDEN, new int[] {0, 0}, BUOYS, EITHER);
        edges.beyond("sways", Scenes::noBorough, HIDDEN, 0, 0);
        edges.beyond("sways", Scenes::noBorough, HIDDEN, 0, 1);
    }

    private void nearest() {
        edges.sentence("nearest", "NEAREST.");
        edges.sentence("Terms", "NEAREST: the BUOY nearest to a BOAT (of several the lowest).");
        BuoyVote vote = edges.borough("bx9y9;by9;bx9;b;cx4y4;cx9y9;cx5y4");
        edges.all("corners", new long[] {vote.nearest(0), vote.nearest(1), vote.nearest(2)}, 3, 0, 2);
        vote = edges.borough("bx9y9;bx4y3;bx3y4;bx5y4;cx4y4;c");
        edges.due("of several the lowest", vote.nearest(0), 1);
        edges.due("18 AWAY", edges.borough("bx9y9;c;c").nearest(1), 0);

        edges.sentence("nearest", "NONE: no such BOAT.");
        edges.bounds("nearest", Scenes::rich, NONE, new int[] {0}, BOATS);
        edges.bounds("nearest", QuestionEdges::two, NONE, new int[] {0}, EITHER);
        edges.beyond("nearest", Scenes::noBorough, NONE, 0);
    }

    private void fog() {
        edges.sentence("fog", "FOG.");
        edges.sentence("Terms", "FOG for a BOAT, a chance (0 .. 100): of 10 to the 9 parts those by which more LEAN "
            + "to it than to each other");
        BuoyVote vote = edges.borough("bc0;cv9;cv0");
        for (int chance = 0; chance <= 100; chance++) {
            edges.all("one LEANS", new long[] {vote.fog(0, chance), vote.fog(1, chance)}, 10000000L * (100 - chance), 0);
        }
        vote = edges.borough("bc9;c;c");
        edges.all("all upright", new long[] {vote.fog(0, 0), vote.fog(1, 50), vote.fog(0, 100)}, 0, 0, 0);
        vote = edges.borough("sw0;bx0a9;by9e9;bx9f9;c;cy9;cx9");
        edges.all("one to each", new long[] {vote.fog(0, 0), vote.fog(1, 50), vote.fog(2, 50), vote.fog(0, 100)},
            0, 125000000, 125000000, 0);
        vote = edges.borough("sw0;bx0a9;bx1a9;by9e9;bx9f9;c;cy9;cx9");
        edges.all("two to BOAT 0", new long[] {vote.fog(0, 0), vote.fog(1, 0), vote.fog(2, 0)}, 1000000000, 0, 0);
        edges.sentence("Terms", "if each BUOY that LEANS is not seen by chance, one behind the other by numbers, each "
            + "way by itself (100ths of its part, cut, not seen: upright; the rest seen)");
        // BUOY 0 is seen, then BUOY 1 is not, by 100ths of what is left.
        vote = edges.borough("sw0;bx0a9;bx9e9;c;cx9");
        edges.all("33 in a hundred", new long[] {vote.fog(0, 33), vote.fog(1, 33)}, 221100000, 330000000 - 108900000);
        edges.all("1 in a hundred", new long[] {vote.fog(0, 1), vote.fog(1, 1)}, 9900000, 9900000);
        // All hidden: 10,000,000, 100,000, 1,000, 10, then cut: none.
        long[] parts = {10000000, 100000, 1000, 10, 0, 0, 0, 0};
        StringBuilder buoys = new StringBuilder("cx4v9;cx9y9v0");
        for (int i = 0; i < 8; i++) {
            buoys.append(";bx").append(i).append("c0");
            edges.due("1 in a hundred of " + (i + 1), edges.borough("sw0;" + buoys).fog(0, 1), 1000000000 - parts[i]);
            edges.due("99 in a hundred of " + (i + 1), edges.borough("sw0;" + buoys).fog(0, 99), 1000000000 - hidden(i + 1));
        }

        edges.sentence("fog", "NONE: no such BOAT, out of bounds.");
        edges.bounds("fog", Scenes::rich, NONE, new int[] {0, 50}, BOATS, new int[] {0, 100});
        edges.bounds("fog", QuestionEdges::two, NONE, new int[] {0, 0}, EITHER, new int[] {0, 100});
        edges.beyond("fog", Scenes::noBorough, NONE, 0, 0);
        edges.beyond("fog", Scenes::noBorough, NONE, 0, 100);
    }

    private static long hidden(int buoys) {
        long part = 1000000000L;
        for (int i = 0; i < buoys; i++) {
            part = part * 99 / 100;
        }
        return part;
    }

    private void needs() {
        edges.sentence("needs", "NEED.");
        edges.sentence("Terms", "NEED of a BOAT at a BUOY: the least LIKING (0 .. 9) by which it would LEAN to it now "
            + "(none: it can't be).");
        for (int chain = 0; chain <= 9; chain++) {
            for (int voice = 0; voice <= 9; voice++) {
                BuoyVote vote = edges.borough("bc" + chain + "a9e9;cv0;cv" + voice);
                // BOAT 0 has to have more than VOICE and LIKING 9 of BOAT 1: never by nine, but by a VOICE of 0 neither.
                edges.due("BOAT 0 against " + voice, vote.needs(0, 0), NONE);
                vote = edges.borough("bc" + chain + "a9;cv0;cv" + voice);
                int need = Math.max(chain, voice + 1);
                edges.due("CHAIN " + chain + " against " + voice, vote.needs(0, 0), need <= 9 ? need : NONE);
                edges.due("the LIKING stays", vote.buoy(0, 3), 9);
            }
        }
        edges.due("none needed", edges.borough("bc9a5;cv9;cv8").needs(0, 0), 0);
        BuoyVote vote = edges.borough("bc0;c;c");
        edges.rule(vote, "y:l=9?5;y:1");
        edges.due("just by nine", vote.needs(0, 0), 9);
        edges.rule(vote, "y:l=0?1;y:0");
        edges.due("by none, nor by any other", vote.needs(0, 0), NONE);
        edges.rule(vote, "y:l=4|l=6?5;y:0");
        edges.due("the least", vote.needs(1, 0), 4);
        edges.rule(vote, "y:v-v");
        edges.due("never", vote.needs(1, 0), NONE);

        edges.sentence("needs", "NONE: none, no such ones.");
        edges.bounds("needs", v -> Scenes.tell(v, 0, "bc0;bx1c0;by1c0;c;c;c"), NONE, new int[] {0, 0}, BOATS, BUOYS);
        edges.bounds("needs", v -> Scenes.tell(v, 0, "bc0;bx1c0;c;c"), NONE, new int[] {0, 0}, EITHER, EITHER);
        edges.beyond("needs", Scenes::noBorough, NONE, 0, 0);
        edges.beyond("needs", v -> Scenes.tell(v, 0, "bx9y9c9;cv0;c"), NONE, 0, 0);
    }

    private void heard() {
        edges.sentence("heard", "HEARD, as bits.");
        edges.sentence("Terms", "HEARD of a BOAT: BUOYS (bits) no more than 1 AWAY.");
        BuoyVote vote = edges.borough("bx4y4;bx3y4;bx5y4;bx4y3;bx4y5;bx3y3;bx5y5;bx4y6;cx4y4;cx9y9;c");
        edges.all("all around", new long[] {vote.heard(0), vote.heard(1), vote.heard(2)}, 31, 0, 0);
        vote = edges.borough("bx9y9;bx8y9;bx9y8;b;cx9y9;cx1;cx1y1");
        edges.all("in corners", new long[] {vote.heard(0), vote.heard(1), vote.heard(2)}, 7, 8, 0);

        edges.sentence("heard", "NONE: no such BOAT.");
        edges.bounds("heard", Scenes::rich, NONE, new int[] {0}, BOATS);
        edges.bounds("heard", QuestionEdges::two, NONE, new int[] {0}, EITHER);
        edges.beyond("heard", Scenes::noBorough, NONE, 0);
    }

    private void middle() {
        edges.sentence("middle", "MIDDLE.");
        edges.sentence("Terms", "MIDDLE: 10 times y and x of the place with the least AWAY of all BUOYS together (of "
            + "several the least).");
        for (int x = 0; x <= 9; x++) {
            for (int y = 0; y <= 9; y++) {
                edges.due("of one", edges.borough("bx" + x + "y" + y + ";c;c").middle(), 10 * y + x);
            }
        }
        edges.due("all alike between two", edges.borough("b;bx9y9;c;c").middle(), 0);
        edges.due("the other corners", edges.borough("bx9;by9;c;c").middle(), 0);
        edges.due("of several the least", edges.borough("bx7y4;bx5y8;c;c").middle(), 45);
        edges.due("of three", edges.borough("bx9y9;bx8y9;bx9y8;c;c").middle(), 99);
        edges.due("of eight", edges.borough("b;bx9;by9;bx9y9;bx1;bx8;bx1y9;bx8y9;c;c").middle(), 1);

        edges.sentence("middle", "NONE: no BOROUGH.");
        edges.beyond("middle", v -> { }, NONE);
        edges.beyond("middle", Scenes::noBorough, NONE);
    }

    private void onlyAsked() {
        edges.sentence("Terms", "(Apart, from as it is; HOURS go on behind 9,999.)");
        for (int i = 0; i < 4; i++) {
            int k = i;
            edges.unchanged("votes", Scenes::rich, v -> v.votes(k % 3));
            edges.unchanged("ahead", Scenes::rich, v -> v.ahead(k % 3, 20 * k));
            edges.unchanged("soon", Scenes::rich, v -> v.soon(k % 3, k % 2));
            edges.unchanged("round", Scenes::rich, v -> v.round(k % 3, 7, k % 2));
            edges.unchanged("best", Scenes::rich, v -> v.best(k % 3, k % 2));
            edges.unchanged("game", Scenes::rich, v -> v.game(k % 3, (k + 1) % 3, 2, k % 2, k % 2));
            edges.unchanged("rests", Scenes::rich, v -> v.rests(k % 3, (k + 1) % 3, k - 1));
            edges.unchanged("holds", Scenes::rich, v -> v.holds(k % 3, (k + 1) % 3, k % 2));
            edges.unchanged("likes", Scenes::rich, v -> v.likes(k % 3, k - 1));
            edges.unchanged("ask", Scenes::rich, v -> v.ask(k % 3));
            edges.unchanged("blown", Scenes::rich, v -> v.blown(18, k));
            edges.unchanged("washed", Scenes::rich, v -> v.washed(k, 1, k - 1));
            edges.unchanged("watch", Scenes::rich, v -> v.watch(6 * k));
            edges.unchanged("fair", Scenes::rich, v -> v.fair(20 * k, k % 2));
            edges.unchanged("buoys", Scenes::rich, v -> v.buoys(k % 2));
            edges.unchanged("sways", Scenes::rich, v -> v.sways(k % 3, k % 2));
            edges.unchanged("nearest", Scenes::rich, v -> v.nearest(k % 3));
            edges.unchanged("fog", Scenes::rich, v -> v.fog(k % 3, 30 * k));
            edges.unchanged("needs", Scenes::rich, v -> v.needs(k % 3, k % 2));
            edges.unchanged("heard", Scenes::rich, v -> v.heard(k % 3));
            edges.unchanged("log", Scenes::rich, v -> v.log(k, 0));
            edges.unchanged("step", Scenes::rich, v -> v.step(0, k, k));
            edges.unchanged("rule", Scenes::rich, v -> v.rule(k));
            edges.unchanged("buoy", Scenes::rich, v -> v.buoy(k % 3, 8 - k));
            edges.unchanged("boat", Scenes::rich, v -> v.boat(k % 3, k));
            edges.unchanged("pull", Scenes::rich, v -> v.pull(k % 3, k % 2));
            edges.unchanged("push", Scenes::rich, v -> v.push(k % 3, k % 2));
            edges.unchanged("count", Scenes::rich, v -> v.count(4 + k));
        }
        edges.unchanged("leader", Scenes::rich, v -> v.leader());
        edges.unchanged("middle", Scenes::rich, v -> v.middle());
    }

    private void refusedInARow() {
        edges.sentence("Terms", "What is refused answers as told and changes nothing.");
        edges.refused("all that can be refused, in a row", Scenes::rich, v -> {
            long sum = v.end(9) || v.law(2) || v.wind(4, 2) || v.wind(10, 0) ? 1000 : 0;
            sum += v.text(0) + v.text(1) + v.text(2) + v.text(3) + v.rule(5) + v.boat(3, 0) + v.row(1, 5, 5) + v.row(0, 10, 0);
            sum += v.sing(0, 1) + v.scrape(0, 1) + v.hours(0) + v.hours(61) + v.years(0, 1) + v.years(61, 1) + v.log(5, 0);
            sum += v.perform(2) + v.votes(3) + v.soon(0, 3) + v.round(0, 8, 0) + v.best(3, 0) + v.game(1, 1, 0, 0, 0);
            sum += v.rests(0, 0, NONE) + v.seen(0, 19, 0, 0) + v.likes(3, NONE) + v.ask(3) + v.blown(3, 4) + v.washed(9, 0, 0);
            sum += v.watch(19) + v.fair(61, 0) + v.buoys(2) + v.nearest(3) + v.fog(0, 101) + v.needs(3, 0) + v.heard(3);
            return sum;
        }, -34);
        edges.refused("all that is not told, in a row", Scenes::rich, v -> (v.pull(3, 0) + v.push(3, 0) + v.step(2, 0, 0)
            + v.run(2, 0) + v.ahead(0, 61) + v.holds(1, 1, 0) + v.sways(3, 0) + v.count(13)) / HIDDEN, 8);
    }
}
