import java.math.BigInteger;

/** Bounds of what acts on a BOROUGH: parts 2 and 4 of the terms, promises 6 to 8, 10 to 19, 21, 22, 46 to 48. */
final class ActEdges {
    private static final int NONE = BuoyVote.NONE;
    private static final int HIDDEN = BuoyVote.HIDDEN;
    private static final int[] BUOYS = {0, 2};
    private static final int[] BOATS = {0, 2};

    private final Edges edges;

    ActEdges(Edges edges) {
        this.edges = edges;
    }

    void run() {
        rule();
        buoy();
        boat();
        away();
        push();
        tide();
        draw();
        drawRefused();
        leans();
        rowing();
        row();
        sing();
        scrape();
        wind();
        hours();
        lastHour();
        counting();
        voting();
        log();
        logRefused();
        acts();
        undo();
        runs();
        runRefused();
        perform();
        performAtTheEnd();
        years();
        yearsRefused();
        image();
        back();
        count();
    }

    private void rule() {
        edges.sentence("rule", "The RULES: 0 WIND, 1 the way it blows, 2 HOURS that the TIDE rises, 3 HOURS to a "
            + "COUNT, 4 whether the TIDE rises (1, 0).");
        BuoyVote vote = edges.borough("sw9d3t12h20;b;c;c");
        edges.all("greatest", rules(vote), 9, 3, 12, 20, 1);
        vote.hours(12);
        edges.due("rule(4) at ebb", vote.rule(4), 0);
        edges.all("least", rules(edges.borough("sw0d0t1h1;b;c;c")), 0, 0, 1, 1, 1);
        vote.wind(0, 2);
        edges.all("as the WIND is now", rules(vote), 0, 2, 12, 20, 0);

        edges.sentence("rule", "NONE: no BOROUGH, no such what.");
        edges.bounds("rule", Scenes::rich, NONE, new int[] {0}, new int[] {0, 4});
        for (int what = 0; what <= 4; what++) {
            edges.beyond("rule", Scenes::noBorough, NONE, what);
        }
    }

    private static long[] rules(BuoyVote vote) {
        return new long[] {vote.rule(0), vote.rule(1), vote.rule(2), vote.rule(3), vote.rule(4)};
    }

    private void buoy() {
        edges.sentence("buoy", "Of a BUOY: 0 x, 1 y, 2 CHAIN, 3 .. 5 LIKING of BOAT 0 .. 2, 6 the OLD vote (NONE), 7 "
            + "BARNACLES, 8 the BOAT to which it LEANS (NONE).");
        BuoyVote vote = edges.borough("bx9y8c7a6e5f4o2r1;b;c;c;c");
        edges.all("told", buoy(vote, 0), 9, 8, 7, 6, 5, 4, 2, 1, NONE);
        edges.all("not told", buoy(vote, 1), 0, 0, 3, 0, 0, 0, NONE, 2, NONE);
        edges.due("LEANS to BOAT 2", edges.borough("b;c;c;cv4").buoy(0, 8), 2);
        edges.due("LEANS to BOAT 0", edges.borough("b;cv4;c;c").buoy(0, 8), 0);

        edges.sentence("buoy", "NoSuchElementException: no such ones.");
        edges.bounds("buoy", Scenes::rich, Edges.THROWN, new int[] {0, 0}, BUOYS, new int[] {0, 8});
        edges.bounds("buoy", v -> Scenes.full(v, ""), Edges.THROWN, new int[] {7, 8}, new int[] {0, 7}, new int[] {0, 8});
        for (int what = 0; what <= 8; what++) {
            edges.beyond("buoy", Scenes::noBorough, Edges.THROWN, 0, what);
            edges.beyond("buoy", v -> Scenes.tell(v, 0, "b;c;c"), Edges.THROWN, 1, what);
        }
    }

    private static long[] buoy(BuoyVote vote, int buoy) {
        long[] answers = new long[9];
        for (int what = 0; what < 9; what++) {
            answers[what] = vote.buoy(buoy, what);
        }
        return answers;
    }

    private void boat() {
        edges.sentence("boat", "Of a BOAT: 0 x, 1 y, 2 SPEED, 3 VOICE, 4 x, 5 y of where it is to ROW, 6 how often it "
            + "WON, 7 to how many it SANG.");
        BuoyVote vote = edges.borough("sh1;bx9y8;cx9y9s4v9;c;cs1v0");
        edges.all("told", boat(vote, 0), 9, 9, 4, 9, 9, 9, 0, 0);
        edges.all("not told", boat(vote, 1), 0, 0, 2, 3, 0, 0, 0, 0);
        edges.all("least", boat(vote, 2), 0, 0, 1, 0, 0, 0, 0, 0);
        vote.sing(0, 0);
        vote.sing(0, 0);
        vote.row(0, 0, 7);
        vote.hours(1);
        edges.all("behind an HOUR", boat(vote, 0), 5, 9, 4, 9, 0, 7, 1, 2);

        edges.sentence("boat", "NONE: no such ones.");
        edges.bounds("boat", Scenes::rich, NONE, new int[] {0, 0}, BOATS, new int[] {0, 7});
        for (int what = 0; what <= 7; what++) {
            edges.beyond("boat", Scenes::noBorough, NONE, 0, what);
            edges.beyond("boat", v -> Scenes.tell(v, 0, "b;c;c"), NONE, 2, what);
        }
    }

    private static long[] boat(BuoyVote vote, int boat) {
        long[] answers = new long[8];
        for (int what = 0; what < 8; what++) {
            answers[what] = vote.boat(boat, what);
        }
        return answers;
    }

    private void away() {
        edges.sentence("Terms", "AWAY of a BOAT from a place: columns and rows apart, together.");
        for (int x = 0; x <= 9; x++) {
            for (int y = 0; y <= 9; y++) {
                BuoyVote vote = edges.borough("b;bx9y9;bx4y5;cx" + x + "y" + y + ";c");
                edges.rule(vote, "y:d");
                int middle = (x < 4 ? 4 - x : x - 4) + (y < 5 ? 5 - y : y - 5);
                edges.all("AWAY at " + x + ", " + y, new long[] {vote.pull(0, 0), vote.pull(1, 0), vote.pull(2, 0)},
                    x + y, 18 - x - y, middle);
            }
        }
    }

    private void push() {
        edges.sentence("push", "PUSH of a BOAT at a BUOY now.");
        edges.sentence("Terms", "PUSH of a BOAT at a BUOY: WIND, if the WIND blows from the BUOY towards it (right: "
            + "its x is greater; down: its y is greater; left, up: less), WIND less than nothing, if it blows away "
            + "from it (the other way), 0 if neither; and 1 more, if the TIDE rises and its x is greater, or if it "
            + "ebbs and its x is less.");
        // By x less, the same, greater (down the rows) and y less, the same, greater: the way is 0 right, 1 down, 2 left, 3 up.
        int[][][] signs = {{{-1, -1, -1}, {0, 0, 0}, {1, 1, 1}}, {{-1, 0, 1}, {-1, 0, 1}, {-1, 0, 1}},
            {{1, 1, 1}, {0, 0, 0}, {-1, -1, -1}}, {{1, 0, -1}, {1, 0, -1}, {1, 0, -1}}};
        for (int way = 0; way < 4; way++) {
            for (int wind : new int[] {0, 1, 9}) {
                for (int x = 0; x < 3; x++) {
                    for (int y = 0; y < 3; y++) {
                        int far = (x + y) % 2 == 0 ? 4 : 1;
                        BuoyVote vote = edges.borough("sw" + wind + "d" + way + "t1;bx5y5;c;cx" + (5 + far * (x - 1)) + "y"
                            + (5 + far * (y - 1)));
                        int push = signs[way][x][y] * wind;
                        edges.due("rising, x " + x + ", y " + y, vote.push(0, 1), push + (x == 2 ? 1 : 0));
                        vote.hours(1);
                        edges.due("at ebb, x " + x + ", y " + y, vote.push(0, 1), push + (x == 0 ? 1 : 0));
                    }
                }
            }
        }

        edges.sentence("push", "HIDDEN: no such ones.");
        edges.bounds("push", Scenes::rich, HIDDEN, new int[] {0, 0}, BUOYS, BOATS);
        edges.beyond("push", Scenes::noBorough, HIDDEN, 0, 0);
        edges.beyond("push", v -> Scenes.tell(v, 0, "b;c;c"), HIDDEN, 0, 2);
    }

    private void tide() {
        edges.sentence("Terms", "The TIDE rises in an HOUR, if that modulo twice t is less than t, else it ebbs.");
        for (int t = 1; t <= 12; t++) {
            BuoyVote vote = edges.borough("st" + t + ";b;c;c");
            boolean rises = true;
            int left = t;
            for (int hour = 0; hour <= 50; hour++) {
                if (left == 0) {
                    rises = !rises;
                    left = t;
                }
                left--;
                edges.due("rule(4), t " + t + ", HOUR " + hour, vote.rule(4), rises ? 1 : 0);
                vote.hours(1);
            }
        }
        // 9,999 modulo 24 is 15, modulo 12 it is 3, modulo 2 it is 1.
        edges.due("t 12 in HOUR 9,999", Edges.after(v -> inLastHour(v, "st12;b;c;c")).rule(4), 0);
        edges.due("t 6 in HOUR 9,999", Edges.after(v -> inLastHour(v, "st6;b;c;c")).rule(4), 1);
        edges.due("t 1 in HOUR 9,999", Edges.after(v -> inLastHour(v, "st1;b;c;c")).rule(4), 0);
    }

    private static void inLastHour(BuoyVote vote, String borough) {
        Scenes.tell(vote, 0, borough);
        for (int i = 0; i < 166; i++) {
            vote.hours(60);
        }
        vote.hours(39);
    }

    private void draw() {
        edges.sentence("Terms", "DRAW of a BOAT on a BUOY: WORTH by the LAW that holds, held within -99 .. 99");
        String[] laws = {"y:98", "y:99", "y:100", "y:101", "y:9999*9999", "y:0-98", "y:0-99", "y:0-100", "y:0-9999*9999"};
        int[] draws = {98, 99, 99, 99, 99, -98, -99, -99, -99};
        for (int i = 0; i < laws.length; i++) {
            BuoyVote vote = edges.borough("b;c;c");
            edges.rule(vote, laws[i]);
            edges.due("pull by " + laws[i], vote.pull(0, 0), draws[i]);
            edges.due("SWAYS by " + laws[i], vote.sways(0, 0), 3 - draws[i]);
            edges.due("two alike by " + laws[i], vote.buoy(0, 8), NONE);
        }
        // 100 and 101 are both held at 99: alike.
        BuoyVote vote = edges.borough("bc0;cv0;cv1");
        edges.rule(vote, "y:100+v");
        edges.all("held alike", new long[] {vote.buoy(0, 8), vote.sways(0, 1)}, NONE, 0);
        edges.rule(vote, "y:98+v");
        edges.all("98 and 99", new long[] {vote.buoy(0, 8), vote.sways(0, 1)}, 1, 1);

        edges.sentence("Terms", "(none at first: VOICE and LIKING and BARNACLES, if it is the OLD vote, and PUSH, "
            + "less AWAY)");
        // 9 + 9 + 9 + 10 - 1 is the most, 0 + 0 + 0 - 9 - 18 the least.
        vote = edges.borough("sw9;bx5y5a9o0r9;bx9y9r9;cx6y5v9;cv0");
        edges.all("without a LAW", new long[] {vote.pull(0, 0), vote.pull(1, 1), vote.pull(0, 1)}, 36, -27, -19);
        edges.rule(vote, "y:1");
        edges.due("by a LAW", vote.pull(0, 0), 1);
        edges.due("law(NONE)", vote.law(NONE), true);
        edges.due("without it again", vote.pull(0, 0), 36);

        edges.sentence("Terms", "letters: v VOICE, l LIKING, r BARNACLES (0, if it is not the OLD vote), d AWAY, p "
            + "PUSH, h the HOUR");
        vote = edges.borough("sw0;bx2y2a3e4o1r5;bx9r9;cx3y3v6;cx1y2v7");
        edges.rule(vote, "y:r");
        edges.all("r", new long[] {vote.pull(0, 0), vote.pull(0, 1), vote.pull(1, 0), vote.pull(1, 1)}, 0, 5, 0, 0);
        edges.rule(vote, "y:v*10+l");
        edges.all("v, l", new long[] {vote.pull(0, 0), vote.pull(0, 1)}, 63, 74);
        edges.rule(vote, "y:d*10+p");
        edges.all("d, p", new long[] {vote.pull(0, 0), vote.pull(0, 1)}, 21, 10);
        edges.rule(vote, "y:h");
        edges.due("h 0", vote.pull(0, 0), 0);
        vote.hours(60);
        edges.due("h 60", vote.pull(0, 0), 60);
        vote.hours(39);
        edges.due("h 99", vote.pull(0, 0), 99);
        vote.hours(1);
        edges.due("h 100 is held", vote.pull(0, 0), 99);
        vote = Edges.after(v -> inLastHour(v, "b;c;c"));
        edges.rule(vote, "y:h-9990");
        edges.due("h 9,999", vote.pull(0, 0), 9);
    }

    private void drawRefused() {
        edges.sentence("pull", "DRAW of a BOAT on a BUOY now.");
        BuoyVote vote = edges.borough("sw0;bx3;cv9s1;c");
        edges.due("pull(0, 0)", vote.pull(0, 0), 9 - 3);
        vote.row(0, 3, 0);
        vote.hours(2);
        edges.due("pull(0, 0) two HOURS later", vote.pull(0, 0), 9 - 1);

        edges.sentence("pull", "HIDDEN: no such ones.");
        edges.bounds("pull", Scenes::rich, HIDDEN, new int[] {0, 0}, BUOYS, BOATS);
        edges.beyond("pull", Scenes::noBorough, HIDDEN, 0, 0);
        edges.beyond("pull", v -> Scenes.tell(v, 0, "b;c;c"), HIDDEN, 0, 2);
    }

    private void leans() {
        edges.sentence("Terms", "A BUOY LEANS to the BOAT with the greatest DRAW, if that is no less than its CHAIN "
            + "and no other has as much; else it stays upright.");
        for (int chain = 0; chain <= 9; chain++) {
            for (int voice = 0; voice <= 9; voice++) {
                BuoyVote vote = edges.borough("bc" + chain + ";cv0;cv" + voice);
                edges.due("CHAIN " + chain + ", DRAW " + voice, vote.buoy(0, 8), voice >= chain && voice > 0 ? 1 : NONE);
            }
        }
        edges.due("DRAW less than 0", edges.borough("sw0;bx9c0;cv9;cv8").buoy(0, 8), 0);
        edges.due("DRAW -1, CHAIN 0", edges.borough("sw0;by9c0;cv8;cv7").buoy(0, 8), NONE);
        edges.due("two as much", edges.borough("bc0;cv9;cv9;cv8").buoy(0, 8), NONE);
        edges.due("first and third as much", edges.borough("bc0;cv9;cv8;cv9").buoy(0, 8), NONE);
        edges.due("second and third as much", edges.borough("bc0;cv8;cv9;cv9").buoy(0, 8), NONE);
        edges.due("all as much", edges.borough("bc0;cv9;cv9;cv9").buoy(0, 8), NONE);
        edges.due("two less as much, the first", edges.borough("bc0;cv9;cv8;cv8").buoy(0, 8), 0);
        edges.due("two less as much, the second", edges.borough("bc0;cv8;cv9;cv8").buoy(0, 8), 1);
        edges.due("two less as much, the third", edges.borough("bc0;cv8;cv8;cv9").buoy(0, 8), 2);
    }

    private void rowing() {
        edges.sentence("Terms", "An HOUR (0 at first): (1) each BOAT rows SPEED cells (fewer, if it is there) towards "
            + "where it is to ROW (at first where it is): by columns first, then by rows.");
        rows("cx1y1s4", 4, 3, 42, 43, 43);
        rows("cx1y1s1", 2, 3, 21, 22, 23, 23);
        rows("cx9y9s3", 7, 5, 78, 75, 75);
        rows("cs4", 9, 9, 40, 80, 93, 97, 99, 99);
        rows("cx9y9s4", 0, 0, 59, 19, 6, 2, 0, 0);
        rows("cx5y5s2", 5, 0, 53, 51, 50, 50);
        rows("cx5y5s2", 0, 5, 35, 15, 5, 5);
        rows("cx5y5s2", 4, 6, 46, 46);
        BuoyVote vote = edges.borough("b;cx3y4;cx9y9");
        edges.due("HOUR 0 at first", vote.count(6), 0);
        edges.all("at first where it is", new long[] {vote.boat(0, 4), vote.boat(0, 5), vote.boat(1, 4), vote.boat(1, 5)},
            3, 4, 9, 9);
        vote.hours(60);
        edges.all("it stays there", new long[] {vote.boat(0, 0), vote.boat(0, 1), vote.boat(1, 0), vote.boat(1, 1)}, 3, 4, 9, 9);
    }

    /** Places (10 times x and y) of a BOAT, HOUR by HOUR, when it is to ROW to x, y. */
    private void rows(String boat, int x, int y, int... places) {
        BuoyVote vote = edges.borough("b;c;" + boat);
        vote.row(1, x, y);
        for (int place : places) {
            vote.hours(1);
            edges.due(boat + " to " + x + ", " + y + " in HOUR " + vote.count(6), 10 * vote.boat(1, 0) + vote.boat(1, 1), place);
        }
    }

    private void row() {
        edges.sentence("row", "It is to ROW to a place: how many HOURS it needs.");
        edges.sentence("Terms", "By hand: a BOAT is to ROW to a place");
        for (int speed = 1; speed <= 4; speed++) {
            for (int away = 0; away <= 18; away++) {
                BuoyVote vote = edges.borough("b;c;cs" + speed);
                // Away from here first, as to be where it is to ROW already is refused.
                vote.row(1, 9, 8);
                int hours = 0;
                for (int left = away; left > 0; left -= speed) {
                    hours++;
                }
                int x = Math.min(away, 9);
                if (away != 17) {
                    edges.due("row " + away + " AWAY by " + speed, vote.row(1, x, away - x), hours);
                    edges.all("where it is to ROW", new long[] {vote.boat(1, 4), vote.boat(1, 5), vote.boat(1, 0),
                        vote.count(12)}, x, away - x, 0, 2);
                }
            }
        }

        edges.sentence("row", "NONE: no such ones, it is so.");
        edges.bounds("row", Scenes::rich, NONE, new int[] {0, 4, 4}, BOATS, new int[] {0, 9}, new int[] {0, 9});
        edges.beyond("row", Scenes::noBorough, NONE, 0, 0, 0);
        edges.beyond("row", Scenes::noBorough, NONE, 0, 4, 4);
        edges.beyond("row", v -> Scenes.tell(v, 0, "b;c;c"), NONE, 2, 4, 4);
        edges.beyond("row", Scenes::rich, NONE, 0, 1, 2);
        edges.beyond("row", Scenes::rich, NONE, 1, 5, 5);
        edges.beyond("row", Scenes::rich, NONE, 2, 7, 8);
        BuoyVote vote = edges.borough("b;c;cx4y4");
        edges.all("so in one alone", new long[] {vote.row(1, 4, 5), vote.row(1, 5, 5), vote.row(1, 5, 4), vote.row(1, 5, 4)},
            1, 1, 1, NONE);
    }

    /** Three BOATS, each no more than 1 AWAY from three BUOYS. */
    private static void near(BuoyVote vote) {
        Scenes.tell(vote, 0, "bx5y5r1;bx4y5r1a8e8f8;bx5y6r9;cx5y5;cx5y5;cx5y5");
        vote.hours(1);
        vote.image();
        vote.wind(3, 3);
    }

    private void sing() {
        edges.sentence("sing", "It SINGS: LIKING then.");
        edges.sentence("Terms", "it SINGS to a BUOY no more than 1 AWAY: LIKING of it one more (9 at most; else it "
            + "can't be)");
        for (int liking = 0; liking <= 8; liking++) {
            BuoyVote vote = edges.borough("ba" + liking + "e" + liking + "f" + liking + ";c;c;c");
            for (int boat = 0; boat < 3; boat++) {
                edges.due("sing(" + boat + ", 0)", vote.sing(boat, 0), liking + 1);
                edges.due("LIKING", vote.buoy(0, 3 + boat), liking + 1);
                edges.due("SANG", vote.boat(boat, 7), 1);
            }
            edges.due("count(12)", vote.count(12), 3);
        }
        BuoyVote vote = edges.borough("b;c;c");
        for (int liking = 1; liking <= 9; liking++) {
            edges.due("sing on", vote.sing(1, 0), liking);
        }
        edges.due("sing at nine", vote.sing(1, 0), NONE);
        edges.due("SANG", vote.boat(1, 7), 9);
        for (int x = 0; x <= 9; x++) {
            for (int y = 0; y <= 9; y++) {
                vote = edges.borough("bx4y5;c;cx" + x + "y" + y);
                boolean near = x == 4 && y >= 4 && y <= 6 || y == 5 && x >= 3 && x <= 5;
                edges.due("sing from " + x + ", " + y, vote.sing(1, 0), near ? 1 : NONE);
            }
        }

        edges.sentence("sing", "NONE: no such ones, more than 1 AWAY, nine.");
        edges.bounds("sing", ActEdges::near, NONE, new int[] {0, 0}, BOATS, BUOYS);
        edges.beyond("sing", Scenes::noBorough, NONE, 0, 0);
        edges.beyond("sing", v -> Scenes.tell(v, 0, "b;c;c"), NONE, 2, 0);
        edges.beyond("sing", Scenes::rich, NONE, 0, 1);
        edges.beyond("sing", Scenes::rich, NONE, 0, 2);
        for (int boat = 0; boat < 3; boat++) {
            edges.beyond("sing", v -> Scenes.tell(v, 0, "ba9e9f9;c;c;c"), NONE, boat, 0);
            edges.beyond("sing", v -> Scenes.tell(v, 0, "bx5y5;cx4y4;cx6y6;cx5y7"), NONE, boat, 0);
        }
    }

    private void scrape() {
        edges.sentence("scrape", "It SCRAPES: BARNACLES then.");
        edges.sentence("Terms", "it SCRAPES one no more than 1 AWAY: BARNACLES one less (with none it can't be)");
        BuoyVote vote = edges.borough("br9o1;c;c;c");
        for (int barnacles = 8; barnacles >= 0; barnacles--) {
            edges.due("scrape", vote.scrape(barnacles % 3, 0), barnacles);
            edges.due("BARNACLES", vote.buoy(0, 7), barnacles);
        }
        edges.all("with none", new long[] {vote.scrape(0, 0), vote.scrape(1, 0), vote.scrape(2, 0)}, NONE, NONE, NONE);
        edges.all("the OLD vote stays", new long[] {vote.buoy(0, 6), vote.count(12)}, 1, 9);
        for (int x = 0; x <= 9; x++) {
            for (int y = 0; y <= 9; y++) {
                vote = edges.borough("bx4y5r1;c;cx" + x + "y" + y);
                boolean near = x == 4 && y >= 4 && y <= 6 || y == 5 && x >= 3 && x <= 5;
                edges.due("scrape from " + x + ", " + y, vote.scrape(1, 0), near ? 0 : NONE);
            }
        }

        edges.sentence("scrape", "NONE: no such ones, more than 1 AWAY, none.");
        edges.bounds("scrape", ActEdges::near, NONE, new int[] {0, 0}, BOATS, BUOYS);
        edges.beyond("scrape", Scenes::noBorough, NONE, 0, 0);
        edges.beyond("scrape", v -> Scenes.tell(v, 0, "b;c;c"), NONE, 2, 0);
        edges.beyond("scrape", Scenes::rich, NONE, 0, 1);
        edges.beyond("scrape", Scenes::rich, NONE, 0, 2);
        for (int boat = 0; boat < 3; boat++) {
            edges.beyond("scrape", v -> Scenes.tell(v, 0, "br0o1;c;c;c"), NONE, boat, 0);
            edges.beyond("scrape", v -> Scenes.tell(v, 0, "bx5y5;cx4y4;cx6y6;cx5y7"), NONE, boat, 0);
        }
    }

    private void wind() {
        edges.sentence("wind", "WIND (0 .. 9) and its way (0 .. 3).");
        edges.sentence("Terms", "the WIND is set; HOURS go by");
        for (int v = 0; v <= 9; v++) {
            for (int way = 0; way <= 3; way++) {
                BuoyVote vote = edges.borough("sw4d1;b;c;c");
                edges.due("wind(" + v + ", " + way + ")", vote.wind(v, way), v != 4 || way != 1);
                edges.all("so it is", new long[] {vote.rule(0), vote.rule(1), vote.count(12)}, v, way,
                    v == 4 && way == 1 ? 0 : 1);
                edges.due("wind(" + v + ", " + way + ") again", vote.wind(v, way), false);
            }
        }

        edges.sentence("wind", "False: no BOROUGH, out of bounds, it is so.");
        edges.bounds("wind", Scenes::rich, 0, new int[] {7, 1}, new int[] {0, 9}, new int[] {0, 3});
        edges.beyond("wind", Scenes::noBorough, 0, 5, 1);
        edges.beyond("wind", Scenes::noBorough, 0, 0, 0);
        edges.beyond("wind", Scenes::rich, 0, 4, 2);
        edges.beyond("wind", v -> Scenes.tell(v, 0, "b;c;c"), 0, 2, 0);
    }

    private void hours() {
        edges.sentence("hours", "HOURS (1 .. 60): the HOUR.");
        for (int n = 1; n <= 60; n++) {
            BuoyVote vote = edges.borough("b;c;c");
            edges.due("hours(" + n + ")", vote.hours(n), n);
            edges.all("gone by", new long[] {vote.count(6), vote.count(11), vote.count(12)}, n, n, Math.min(n, 40));
            edges.due("hours(" + n + ") more", vote.hours(n), 2 * n);
        }

        edges.sentence("hours", "NONE: no BOROUGH, out of bounds, beyond 9,999.");
        edges.bounds("hours", Scenes::rich, NONE, new int[] {1}, new int[] {1, 60});
        edges.beyond("hours", Scenes::noBorough, NONE, 1);
        edges.beyond("hours", Scenes::noBorough, NONE, 60);
    }

    private void lastHour() {
        edges.sentence("Terms", "(2) The HOUR is one later (9,999 at most: none goes by then).");
        edges.due("hours(60) to 9,999", Edges.after(v -> Scenes.inHour(v, 9939)).hours(60), 9999);
        edges.due("hours(59) to 9,999", Edges.after(v -> Scenes.inHour(v, 9940)).hours(59), 9999);
        edges.due("hours(1) to 9,999", Edges.after(v -> Scenes.inHour(v, 9998)).hours(1), 9999);
        edges.due("years(60) to 9,999", Edges.after(v -> Scenes.inHour(v, 9939)).years(60, 1), 9999);
        edges.due("years(1) to 9,999", Edges.after(v -> Scenes.inHour(v, 9998)).years(1, 1), 9999);
        edges.due("count(6)", Edges.after(v -> Scenes.inHour(v, 9999)).count(6), 9999);

        edges.sentence("hours", "NONE: no BOROUGH, out of bounds, beyond 9,999.");
        edges.beyond("hours", v -> Scenes.inHour(v, 9940), NONE, 60);
        edges.beyond("hours", v -> Scenes.inHour(v, 9998), NONE, 2);
        edges.beyond("hours", v -> Scenes.inHour(v, 9999), NONE, 1);
        edges.beyond("hours", v -> Scenes.inHour(v, 9999), NONE, 60);
        edges.sentence("years", "NONE likewise.");
        edges.beyond("years", v -> Scenes.inHour(v, 9940), NONE, 60);
        edges.beyond("years", v -> Scenes.inHour(v, 9998), NONE, 2);
        edges.beyond("years", v -> Scenes.inHour(v, 9999), NONE, 1);
        edges.beyond("years", v -> Scenes.inHour(v, 9999), NONE, 60);
    }

    private void counting() {
        edges.sentence("Terms", "(3) If it can be divided by HOURS from one COUNT to the next: the BOAT to which most "
            + "LEAN has WON a COUNT more");
        for (int h = 1; h <= 20; h++) {
            BuoyVote vote = edges.borough("sh" + h + ";bo1r0c0;cv5;cv3");
            int won = 0;
            for (int hour = 1; hour <= 60; hour++) {
                vote.hours(1);
                won += hour % h == 0 ? 1 : 0;
                edges.all("h " + h + ", HOUR " + hour, new long[] {vote.boat(0, 6), vote.boat(1, 6), vote.count(9),
                    vote.buoy(0, 6), vote.buoy(0, 7)}, won, 0, won, won == 0 ? 1 : 0, Math.min(won, 9));
            }
        }

        edges.sentence("Terms", "(of several with as many, or if all are upright, nobody)");
        edges.all("one to each of two", counted("bx0a9;bx9e9;c;cx9"), 0, 0, NONE);
        edges.all("two to each of two", counted("bx0a9;bx1a9;bx8e9;bx9e9;c;cx9"), 0, 0, NONE);
        edges.all("one to each of three", counted("bx0a9;by9e9;bx9f9;c;cy9;cx9"), 0, 0, 0);
        edges.all("two, two and one", counted("bx0a9;bx1a9;by8e9;by9e9;bx9f9;c;cy9;cx9"), 0, 0, 0);
        edges.all("one, two and two", counted("bx0a9;by8e9;by9e9;bx9f9;bx8f9;c;cy9;cx9"), 0, 0, 0);
        edges.all("two, one and two", counted("bx0a9;bx1a9;by9e9;bx9f9;bx8f9;c;cy9;cx9"), 0, 0, 0);
        edges.all("one, one and two", counted("bx0a9;by9e9;bx9f9;bx8f9;c;cy9;cx9"), 0, 0, 1);
        edges.all("two, one and one", counted("bx0a9;bx1a9;by9e9;bx9f9;c;cy9;cx9"), 1, 0, 0);
        edges.all("one, two and one", counted("bx0a9;by8e9;by9e9;bx9f9;c;cy9;cx9"), 0, 1, 0);
        edges.all("all upright", counted("bx0c9;bx9c9;c;cx9"), 0, 0, NONE);
        edges.all("all but one upright", counted("bx0c9;bx9c3;c;cx9"), 0, 1, NONE);
    }

    /** How often each BOAT has WON behind a COUNT; no WIND. */
    private long[] counted(String borough) {
        BuoyVote vote = edges.borough("sw0h1;" + borough);
        vote.hours(1);
        return new long[] {vote.boat(0, 6), vote.boat(1, 6), vote.boat(2, 6)};
    }

    private void voting() {
        edges.sentence("Terms", "and of each BUOY that LEANS the OLD vote is that one: BARNACLES one more (9 at "
            + "most), if it was that already, else 1.");
        for (int r = 0; r <= 9; r++) {
            edges.all("it was that already, r " + r, voted("o0r" + r + "c0"), 0, Math.min(r + 1, 9));
            // By its BARNACLES it would LEAN to BOAT 1: LIKING 9 and VOICE 9 are more than that.
            edges.all("it was another, r " + r, voted("a9o1r" + r + "c0"), 0, 1);
            edges.all("it was none, r " + r, voted("r" + r + "c0"), 0, 1);
            edges.all("it was none by a BOAT that is not told, r " + r, voted("o2r" + r + "c0"), 0, 1);
        }
        BuoyVote vote = edges.borough("sh1w0;bx9y9o0r7c9;bx9y8o1r0c9;bx8y9r3c9;c;c");
        vote.hours(60);
        edges.all("upright all the time", new long[] {vote.buoy(0, 6), vote.buoy(0, 7), vote.buoy(1, 6), vote.buoy(1, 7),
            vote.buoy(2, 6), vote.buoy(2, 7)}, 0, 7, 1, 0, NONE, 3);
        // Nobody has WON, yet each that LEANS has its own as its OLD vote.
        vote = edges.borough("sh1w0;bx0a9o1;bx9e9o1r4;c;cx9");
        vote.hours(1);
        edges.all("nobody has WON", new long[] {vote.count(9), vote.buoy(0, 6), vote.buoy(0, 7), vote.buoy(1, 6),
            vote.buoy(1, 7)}, 0, 0, 1, 1, 5);
        // BOAT 0 has WON, yet the OLD vote of BUOY 2 is BOAT 1, to which it LEANS.
        vote = edges.borough("sh1w0;bx0a9;bx1a9;bx9e9;c;cx9");
        vote.hours(1);
        edges.all("who LEANS to another than the one that has WON", new long[] {vote.boat(0, 6), vote.buoy(0, 6),
            vote.buoy(1, 6), vote.buoy(2, 6)}, 1, 0, 0, 1);
    }

    /** OLD vote and BARNACLES of a BUOY that LEANS to BOAT 0 behind one COUNT. */
    private long[] voted(String items) {
        BuoyVote vote = edges.borough("sh1;b" + items + ";cv9;cv1");
        edges.due("LEANS to BOAT 0 by " + items, vote.buoy(0, 8), 0);
        vote.hours(1);
        return new long[] {vote.buoy(0, 6), vote.buoy(0, 7)};
    }

    /** BUOYS LEAN to BOAT 0 in these HOURS alone. */
    private BuoyVote leaningIn(String hours) {
        BuoyVote vote = edges.borough("b;cv5;cv3");
        edges.rule(vote, "y:v=5&(" + hours + ")?9;y:0");
        return vote;
    }

    private void log() {
        edges.sentence("log", "LOG, the latest (i 0), the one ahead of it (1) ..: 0 .. 2 how many LEAN to that BOAT.");
        edges.sentence("Terms", "LOG: how many LEAN to BOAT 0, 1, 2 then, ahead of what (3) does (the latest 60).");
        BuoyVote vote = leaningIn("h=1|h=3");
        for (int hour = 1; hour <= 3; hour++) {
            vote.hours(1);
            edges.due("count(11)", vote.count(11), hour);
        }
        edges.all("HOURS 3, 2, 1", new long[] {vote.log(0, 0), vote.log(1, 0), vote.log(2, 0), vote.log(3, 0)}, 1, 0, 1, NONE);
        vote.hours(57);
        edges.all("60 of them", new long[] {vote.count(11), vote.log(59, 0), vote.log(58, 0), vote.log(57, 0), vote.log(60, 0)},
            60, 1, 0, 1, NONE);
        vote.hours(1);
        edges.all("the latest 60", new long[] {vote.count(11), vote.log(59, 0), vote.log(58, 0), vote.log(60, 0)},
            60, 0, 1, NONE);
        vote.hours(60);
        long sum = 0;
        for (int i = 0; i < 60; i++) {
            sum += vote.log(i, 0);
        }
        edges.all("60 later", new long[] {vote.count(11), sum}, 60, 0);
        vote = edges.borough("sw0;bx0a9;bx9f9;bx8f9;by9e9;by8e9;by7e9;c;cy9;cx9");
        vote.hours(1);
        edges.all("each BOAT", new long[] {vote.log(0, 0), vote.log(0, 1), vote.log(0, 2)}, 1, 3, 2);
        // By each new barnacle the BUOY turns away: the LOG tells of it an HOUR later.
        vote = edges.borough("sh1;bc0r0;cv5;cv3");
        edges.rule(vote, "y:v-r*5");
        vote.hours(2);
        edges.all("ahead of the COUNT", new long[] {vote.log(1, 0), vote.log(1, 1), vote.log(0, 0), vote.log(0, 1),
            vote.votes(0), vote.votes(1)}, 1, 0, 0, 1, 1, 0);
        vote = Edges.after(v -> inLastHour(v, "b;c;cv4"));
        edges.all("in HOUR 9,999", new long[] {vote.count(11), vote.log(0, 1), vote.log(59, 1), vote.log(60, 1)}, 60, 1, 1, NONE);
    }

    private void logRefused() {
        edges.sentence("log", "NONE: no such ones.");
        edges.bounds("log", Scenes::rich, NONE, new int[] {0, 0}, new int[] {0, 4}, BOATS);
        edges.bounds("log", v -> Scenes.full(v, ""), NONE, new int[] {0, 0}, new int[] {0, 59}, BOATS);
        edges.beyond("log", Scenes::noBorough, NONE, 0, 0);
        edges.beyond("log", v -> Scenes.tell(v, 0, "b;c;c"), NONE, 0, 0);
        edges.beyond("log", v -> Scenes.tell(v, 0, "b;c;c"), NONE, -1, 0);
        BuoyVote vote = edges.borough("b;c;c");
        vote.hours(1);
        edges.due("log(0, 2) with two BOATS", vote.log(0, 2), 0);
    }

    private void acts() {
        edges.sentence("Terms", "All these (each HOUR) are ACTS: the latest 40 can be UNDONE one by one (LOG, too).");
        BuoyVote vote = edges.borough("b;c;c");
        vote.row(0, 1, 1);
        edges.due("row", vote.count(12), 1);
        vote.sing(0, 0);
        edges.due("sing", vote.count(12), 2);
        vote.scrape(0, 0);
        edges.due("scrape", vote.count(12), 3);
        vote.wind(7, 1);
        edges.due("wind", vote.count(12), 4);
        vote.hours(3);
        edges.due("three HOURS", vote.count(12), 7);
        vote.years(2, 1);
        edges.due("two HOURS of YEARS", vote.count(12), 9);
        vote.hours(30);
        edges.due("39", vote.count(12), 39);
        vote.hours(1);
        edges.due("40", vote.count(12), 40);
        vote.hours(1);
        edges.due("41 are 40", vote.count(12), 40);
        for (int left = 39; left >= 0; left--) {
            edges.due("undo()", vote.undo(), left);
            edges.due("count(12)", vote.count(12), left);
        }
        edges.all("what was ahead of the latest 40", new long[] {vote.undo(), vote.boat(0, 4), vote.buoy(0, 3), vote.count(6)},
            NONE, 1, 0, 0);
        // LOG, too: what had left it behind the 60th comes again.
        vote = leaningIn("h=1");
        vote.hours(60);
        edges.due("the 60th is HOUR 1", vote.log(59, 0), 1);
        vote.hours(40);
        edges.due("the 60th is HOUR 41", vote.log(59, 0), 0);
        for (int left = 39; left >= 0; left--) {
            edges.due("undo()", vote.undo(), left);
            edges.all("LOG", new long[] {vote.count(11), vote.log(59, 0), vote.log(60, 0)}, 60, left == 0 ? 1 : 0, NONE);
        }
        edges.due("hours(40) again", vote.hours(40), 100);
        edges.due("the 60th is HOUR 41 again", vote.log(59, 0), 0);
        vote = leaningIn("h=1|h=2");
        vote.hours(2);
        vote.undo();
        edges.all("LOG is shorter", new long[] {vote.count(11), vote.log(0, 0), vote.log(1, 0)}, 1, 1, NONE);
        vote.undo();
        edges.all("LOG is empty", new long[] {vote.count(11), vote.log(0, 0)}, 0, NONE);
    }

    private void undo() {
        edges.sentence("undo", "The latest ACT is UNDONE: how many still can be.");
        BuoyVote vote = edges.borough("sw1h1;bx1a4r5c0;bx9;cx1s1;c");
        String[] calls = {"row", "sing", "scrape", "wind", "hours", "years"};
        for (int i = 0; i < calls.length; i++) {
            long[] ahead = all(vote);
            act(vote, calls[i]);
            long[] then = all(vote);
            boolean same = true;
            for (int k = 0; k < then.length; k++) {
                same &= then[k] == ahead[k];
            }
            edges.due(calls[i] + " changes something", same, false);
            edges.due("undo() of " + calls[i], vote.undo(), i);
            edges.all("undone " + calls[i], all(vote), ahead);
            act(vote, calls[i]);
            edges.all("done again " + calls[i], all(vote), then);
        }

        // Each LIKING, OLD vote and number of BARNACLES of eight BUOYS comes again by UNDO and by BACK.
        for (int at = 0; at < 8; at++) {
            for (int boat = 0; boat < 3; boat++) {
                vote = edges.borough("sw0h1;ba1e2f3;bx1a1e2f3;bx2a1e2f3;bx3a1e2f3;bx4a1e2f3;bx5a1e2f3;bx6a1e2f3;bx7a1e2f3;"
                    + "cx" + at + ";cx" + at + ";cx" + at + "v9");
                vote.image();
                int liking = boat + 1;
                edges.all("sing", new long[] {vote.sing(boat, at), vote.scrape(boat, at), vote.hours(1), vote.buoy(at, 6),
                    vote.buoy(at, 7)}, liking + 1, 1, 1, 2, 1);
                edges.all("undo()", new long[] {vote.undo(), vote.buoy(at, 6), vote.buoy(at, 7), vote.buoy(at, 3 + boat),
                    vote.undo(), vote.buoy(at, 7), vote.undo(), vote.buoy(at, 3 + boat)},
                    2, NONE, 1, liking + 1, 1, 2, 0, liking);
                vote.sing(boat, at);
                vote.scrape(boat, at);
                vote.hours(2);
                edges.all("back()", new long[] {vote.back(), vote.buoy(at, 3 + boat), vote.buoy(at, 6), vote.buoy(at, 7)},
                    0, liking, NONE, 2);
                edges.all("apart", new long[] {vote.ahead(at, 0), vote.ahead(at, 1)}, 2, 2);
            }
        }

        edges.sentence("undo", "NONE: none.");
        edges.beyond("undo", v -> { }, NONE);
        edges.beyond("undo", Scenes::noBorough, NONE);
        edges.beyond("undo", v -> Scenes.tell(v, 0, "b;c;c"), NONE);
        edges.beyond("undo", v -> {
            Scenes.rich(v);
            v.back();
        }, NONE);
        edges.beyond("undo", v -> {
            Scenes.full(v, "");
            for (int i = 0; i < 40; i++) {
                v.undo();
            }
        }, NONE);
        edges.beyond("undo", v -> {
            Scenes.rich(v);
            Scenes.tell(v, 0, "b;c;c");
        }, NONE);
    }

    private static void act(BuoyVote vote, String call) {
        switch (call) {
            case "row": vote.row(0, 8, 8); break;
            case "sing": vote.sing(0, 0); break;
            case "scrape": vote.scrape(0, 0); break;
            case "wind": vote.wind(9, 3); break;
            case "hours": vote.hours(1); break;
            default: vote.years(1, 9); break;
        }
    }

    /** All of a BOROUGH with two BUOYS and two BOATS but the ACTS that can be UNDONE. */
    private static long[] all(BuoyVote vote) {
        long[] answers = new long[9 * 2 + 8 * 2 + 5 + 12 + 9];
        int at = 0;
        for (int i = 0; i < 2; i++) {
            for (long answer : buoy(vote, i)) {
                answers[at++] = answer;
            }
            for (long answer : boat(vote, i)) {
                answers[at++] = answer;
            }
        }
        for (long answer : rules(vote)) {
            answers[at++] = answer;
        }
        for (int what = 0; what < 12; what++) {
            answers[at++] = vote.count(what);
        }
        for (int i = 0; i < 9; i++) {
            answers[at++] = vote.log(i / 3, i % 3);
        }
        return answers;
    }

    private void runs() {
        edges.sentence("run", "RUN: behind how many (0; NONE: all can be), SANG (1).");
        edges.sentence("Terms", "RUN of a PLAN: behind how many STEPS the first is that can't be (to ROW where it is "
            + "to ROW already, 0 HOURS can't be); to how many BUOYS together it SANG.");
        ran("h1", NONE, 0);
        ran("h0", 0, 0);
        ran("h9;h0", 1, 0);
        ran("g000", 0, 0);
        ran("g001", NONE, 0);
        ran("g001;g001", 1, 0);
        ran("g001;g000", NONE, 0);
        ran("g001;g000;g000", 2, 0);
        ran("g001;h1;g001", 2, 0);
        ran("g199", 0, 0);
        ran("s00", NONE, 1);
        ran("s00;s00", NONE, 2);
        ran("s00;s00;s00", 2, 2);
        ran("s01", 0, 0);
        ran("s00;s10", 1, 1);
        ran("s11;s00;s11", NONE, 3);
        ran("c00;c00", NONE, 0);
        ran("c00;c00;c00", 2, 0);
        ran("c11", 0, 0);
        ran("c01", 0, 0);
        ran("g099;h9;s01", NONE, 1);
        ran("g099;h8;s01", 2, 0);
        ran("h1;h1;h1;h1;h1;h1;h1;h1;h1;h1;h1;h1;h1;h1;h1;h1", NONE, 0);
        ran("h1;h1;h1;h1;h1;h1;h1;h1;h1;h1;h1;h1;h1;h1;h1;h0", 15, 0);
        ran("s11;s11;s11;s11;s11;s11;s11;s11;s11;h1;h1;h1;h1;h1;h1;s11", 15, 9);

        edges.sentence("Terms", "(Apart, from as it is; HOURS go on behind 9,999.)");
        BuoyVote vote = Edges.after(v -> inLastHour(v, "sw0;bc4;by9;cv5s1;cx9v3s4"));
        edges.due("run of HOURS", vote.run(edges.plan(vote, "g009;h9;s01;h9;h9"), 0), NONE);
        edges.due("run of fewer HOURS", vote.run(edges.plan(vote, "g009;h7;s01"), 0), 2);
        edges.rule(vote, "y:v=3&h=9999+1|v=5&h=9999+60?9;y:0");
        edges.all("ahead", new long[] {vote.ahead(0, 0), vote.ahead(0, 1), vote.ahead(0, 2), vote.ahead(0, 59),
            vote.ahead(0, 60)}, NONE, 1, NONE, NONE, 0);
        edges.rule(vote, "y:v=5&h<9999+3?9;y:0");
        edges.all("fair", new long[] {vote.fair(2, 0), vote.fair(2, 1), vote.fair(3, 0), vote.fair(3, 1)}, 0, 2, 3, 0);
        edges.all("as it is", new long[] {vote.count(6), vote.boat(0, 5), vote.count(12)}, 9999, 0, 40);
    }

    /** LIKINGS of 7 and 0, BARNACLES 2 and 0; BOAT 0 is at BUOY 0, 18 AWAY by a SPEED of 2 from BUOY 1, where BOAT 1 is. */
    private void ran(String steps, int behind, int sang) {
        BuoyVote vote = edges.borough("ba7;bx9y9r0;c;cx9y9");
        int plan = edges.plan(vote, steps);
        edges.all("run of " + steps, new long[] {vote.run(plan, 0), vote.run(plan, 1)}, behind, sang);
        int all = (steps + ";").replaceAll("[^;]", "").length();
        edges.due("perform of " + steps, vote.perform(plan), behind == NONE ? all : behind);
        edges.due("SANG", vote.boat(0, 7) + vote.boat(1, 7), sang);
    }

    private void runRefused() {
        edges.sentence("run", "HIDDEN: no such ones, no BOROUGH.");
        edges.bounds("run", Scenes::rich, HIDDEN, new int[] {0, 0}, new int[] {0, 1}, new int[] {0, 1});
        edges.bounds("run", v -> Scenes.full(v, ""), HIDDEN, new int[] {3, 1}, new int[] {0, 3}, new int[] {0, 1});
        edges.beyond("run", Scenes::noBorough, HIDDEN, 0, 0);
        edges.beyond("run", Scenes::noBorough, HIDDEN, 1, 1);
        edges.beyond("run", v -> Scenes.tell(v, 0, "b;c;c"), HIDDEN, 0, 0);
        edges.sentence("Terms", "(Apart, from as it is; HOURS go on behind 9,999.)");
        for (int i = 0; i < 4; i++) {
            int asked = i;
            edges.unchanged("run", Scenes::rich, v -> v.run(asked / 2, asked % 2));
        }
    }

    private void perform() {
        edges.sentence("perform", "DO: how many STEPS were done.");
        edges.sentence("Terms", "DO: its STEPS as ACTS, up to there.");
        BuoyVote vote = edges.borough("ba7;bx9y9r0;c;cx9y9");
        edges.due("perform", vote.perform(edges.plan(vote, "s00;c00;g011;h3;g099;s11;g099;h9")), 6);
        edges.all("done", new long[] {vote.buoy(0, 3), vote.buoy(0, 7), vote.boat(0, 0), vote.boat(0, 4), vote.count(6),
            vote.buoy(1, 4), vote.count(11), vote.count(12)}, 8, 1, 1, 9, 3, 1, 3, 8);
        edges.all("one by one", new long[] {vote.undo(), vote.buoy(1, 4), vote.undo(), vote.boat(0, 4), vote.undo(),
            vote.count(6), vote.undo(), vote.undo(), vote.count(6), vote.boat(0, 4), vote.undo(), vote.boat(0, 4)},
            7, 0, 6, 1, 5, 2, 4, 3, 0, 1, 2, 0);
        edges.due("all of it", vote.perform(edges.plan(vote, "h9;h9;h9;h9;h9")), 5);
        edges.all("45 HOURS", new long[] {vote.count(6), vote.count(11), vote.count(12)}, 45, 45, 40);
        edges.unchanged("perform of no STEP", v -> {
            Scenes.rich(v);
            Scenes.tell(v, 2, "h0;h9");
        }, v -> v.perform(2));

        edges.sentence("perform", "NONE: no such PLAN, no BOROUGH.");
        edges.bounds("perform", Scenes::rich, NONE, new int[] {0}, new int[] {0, 1});
        edges.bounds("perform", v -> Scenes.full(v, ""), NONE, new int[] {0}, new int[] {0, 3});
        edges.beyond("perform", Scenes::noBorough, NONE, 0);
        edges.beyond("perform", Scenes::noBorough, NONE, 1);
        edges.beyond("perform", v -> Scenes.tell(v, 0, "b;c;c"), NONE, 0);
    }

    private void performAtTheEnd() {
        edges.sentence("Terms", "(9,999 at most: none goes by then)");
        BuoyVote vote = Edges.after(v -> Scenes.inHour(v, 9997));
        edges.due("perform of HOURS at the end", vote.perform(edges.plan(vote, "h1;h9;g011;h1")), 4);
        edges.all("two of them went by", new long[] {vote.count(6), vote.boat(0, 4), vote.count(11), vote.undo(), vote.undo(),
            vote.count(6)}, 9999, 1, 60, 39, 38, 9998);
    }

    private static int draw(BigInteger[] x, int m) {
        x[0] = x[0].multiply(new BigInteger("6364136223846793005")).add(new BigInteger("1442695040888963407"))
            .mod(BigInteger.ONE.shiftLeft(64));
        return x[0].shiftRight(33).mod(BigInteger.valueOf(m)).intValue();
    }

    private void years() {
        edges.sentence("years", "YEARS: likewise.");
        edges.sentence("Terms", "x, at first the seed, becomes x times 6364136223846793005 and 1442695040888963407 "
            + "(64 bits, going round); a draw of m: (x shifted right by 33, without sign) modulo m.");
        for (long seed : new long[] {0, 1, -1, 2, 77, Long.MAX_VALUE, Long.MIN_VALUE, 1L << 33, -(1L << 33), 0x5DEECE66DL}) {
            drawnBy(seed, 8, 3);
            drawnBy(seed, 1, 2);
            drawnBy(seed, 5, 2);
        }
        edges.sentence("Terms", "YEARS by a seed: n (1 .. 60) HOURS");
        for (int n = 1; n <= 60; n++) {
            BuoyVote vote = edges.borough("b;bx9;c;c");
            edges.due("years(" + n + ")", vote.years(n, n), n);
            edges.all("gone by", new long[] {vote.count(6), vote.count(11), vote.count(12)}, n, n, Math.min(n, 40));
        }
        edges.sentence("Terms", "Each HOUR with what is ahead of it is one ACT.");
        BuoyVote vote = edges.borough("bx3;bx9y9;by7;cx1s1;cx4y4");
        vote.wind(5, 1);
        long[] rest = all(vote);
        edges.due("years(1)", vote.years(1, 5), 1);
        edges.due("two ACTS", vote.count(12), 2);
        edges.due("undo()", vote.undo(), 1);
        edges.all("UNDONE at once", all(vote), rest);
    }

    /** Three HOURS by a seed, each against the draws by hand. */
    private void drawnBy(long seed, int buoys, int boats) {
        StringBuilder borough = new StringBuilder("s");
        for (int i = 0; i < buoys; i++) {
            borough.append(";bx").append(i).append("y").append(9 - i);
        }
        borough.append(";c".repeat(boats));
        BigInteger[] x = {BigInteger.valueOf(seed).mod(BigInteger.ONE.shiftLeft(64))};
        for (int hours = 1; hours <= 3; hours++) {
            BuoyVote vote = edges.borough(borough.toString());
            edges.due("years(" + hours + ", " + seed + ")", vote.years(hours, seed), hours);
            edges.due("way by " + seed, vote.rule(1), draw(x, 4));
            edges.due("WIND by " + seed, vote.rule(0), draw(x, 10));
            for (int boat = 0; boat < boats; boat++) {
                int buoy = draw(x, buoys);
                edges.all("to ROW by " + seed, new long[] {vote.boat(boat, 4), vote.boat(boat, 5)}, buoy, 9 - buoy);
            }
        }
    }

    private void yearsRefused() {
        edges.sentence("years", "NONE likewise.");
        for (int n : new int[] {0, -1, 61, 62, Integer.MIN_VALUE, Integer.MAX_VALUE}) {
            edges.beyond("years", Scenes::rich, NONE, n);
        }
        edges.beyond("years", Scenes::noBorough, NONE, 1);
        edges.beyond("years", Scenes::noBorough, NONE, 60);
    }

    private void image() {
        edges.sentence("image", "An IMAGE (instead of the one ahead): the HOUR.");
        edges.sentence("Terms", "An IMAGE keeps BOATS, to how many each SANG, LIKINGS, OLD votes, BARNACLES, WIND, "
            + "who WON, the HOUR, the LOG; BACK: they are so again (no ACT can be UNDONE then).");
        BuoyVote vote = edges.borough("sw0h2;bx1a3r5o1;bx2;c;cx1y1");
        edges.due("image() in HOUR 0", vote.image(), 0);
        long[] first = all(vote);
        vote.sing(1, 0);
        vote.scrape(1, 0);
        vote.row(0, 4, 4);
        vote.wind(8, 1);
        vote.hours(60);
        vote.hours(50);
        edges.due("back()", vote.back(), 0);
        edges.all("as it was", all(vote), first);
        edges.all("no ACT", new long[] {vote.undo(), vote.count(12), vote.count(11), vote.log(0, 0)}, NONE, 0, 0, NONE);
        vote.sing(1, 0);
        vote.hours(3);
        edges.due("image() instead", vote.image(), 3);
        long[] second = all(vote);
        edges.due("ACTS stay", vote.count(12), 4);
        vote.scrape(1, 0);
        vote.years(60, 8);
        vote.years(60, 9);
        edges.due("back() to that", vote.back(), 3);
        edges.all("as it was then", all(vote), second);
        edges.due("back() again", vote.back(), 3);
        edges.due("undo()", vote.undo(), NONE);
        // A full LOG is kept whole.
        vote = leaningIn("h=1|h=60");
        vote.hours(60);
        vote.image();
        vote.hours(60);
        vote.hours(60);
        vote.back();
        edges.all("a full LOG", new long[] {vote.count(11), vote.log(0, 0), vote.log(1, 0), vote.log(58, 0), vote.log(59, 0)},
            60, 1, 0, 0, 1);
        vote.hours(1);
        edges.all("and one HOUR more", new long[] {vote.count(11), vote.log(1, 0), vote.log(59, 0)}, 60, 1, 0);
        edges.due("undo()", vote.undo(), 0);
        edges.due("UNDONE", vote.log(59, 0), 1);
        vote = Edges.after(v -> Scenes.inHour(v, 9999));
        edges.due("image() in HOUR 9,999", vote.image(), 9999);

        edges.sentence("image", "NONE: no BOROUGH.");
        edges.beyond("image", v -> { }, NONE);
        edges.beyond("image", Scenes::noBorough, NONE);
    }

    private void back() {
        edges.sentence("back", "BACK: the HOUR.");
        BuoyVote vote = edges.borough("b;c;c");
        vote.hours(7);
        vote.image();
        edges.due("back() at once", vote.back(), 7);
        vote.hours(60);
        edges.all("back()", new long[] {vote.back(), vote.count(6)}, 7, 7);
        vote = Edges.after(v -> Scenes.inHour(v, 9999));
        edges.due("back() in HOUR 9,999", vote.back(), 9999);

        edges.sentence("back", "NONE: no IMAGE of this BOROUGH.");
        edges.beyond("back", v -> { }, NONE);
        edges.beyond("back", Scenes::noBorough, NONE);
        edges.beyond("back", v -> {
            Scenes.tell(v, 0, "b;c;c");
            v.hours(9);
        }, NONE);
        edges.beyond("back", v -> {
            Scenes.rich(v);
            Scenes.tell(v, 0, "b;c;c");
            v.hours(9);
        }, NONE);
        vote = Edges.after(Scenes::rich);
        vote.text(0);
        edges.due("back() behind a BOROUGH that was refused", vote.back(), 3);
    }

    private void count() {
        edges.sentence("count", "0 BUOYS, 1 BOATS, 2 LAWS, 3 PLANS, 4 bytes of the TAPE, 5 the LAW that holds (NONE), "
            + "6 the HOUR, 7 BUOYS that LEAN (bits), 8 BARNACLES of all, 9 COUNTS that were WON, 10 SEEN, 11 how long "
            + "the LOG is, 12 ACTS that can be UNDONE.");
        BuoyVote vote = Edges.after(v -> Scenes.full(v, ""));
        edges.all("full", new long[] {vote.count(0), vote.count(1), vote.count(2), vote.count(3), vote.count(4), vote.count(5),
            vote.count(6), vote.count(10), vote.count(11), vote.count(12)}, 8, 3, 4, 4, 240, 3, 100, 10, 60, 40);
        vote = edges.borough("sw0h1;bx0a9r9c0;bx1a9r9c0;bx2e9r9c0;bx3r9c9;c;c");
        edges.all("bits, BARNACLES, WON", new long[] {vote.count(7), vote.count(8), vote.count(9)}, 7, 36, 0);
        vote.hours(1);
        edges.all("behind a COUNT", new long[] {vote.count(7), vote.count(8), vote.count(9)}, 7, 12, 1);
        vote = edges.borough("sh1;ba9;bx1a9;bx2a9;bx3a9;bx4a9;bx5a9;bx6a9;bx7a9;cx4v9;cx9y9v0");
        edges.due("all LEAN", vote.count(7), 255);

        edges.sentence("count", "HIDDEN for others.");
        edges.bounds("count", Scenes::rich, HIDDEN, new int[] {0}, new int[] {0, 12});
        edges.bounds("count", Scenes::noBorough, HIDDEN, new int[] {0}, new int[] {0, 12});
        edges.bounds("count", v -> { }, HIDDEN, new int[] {0}, new int[] {0, 12});
    }
}
