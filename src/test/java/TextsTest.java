/** Promises 1 to 5, 9 and 20: the TAPE, FAULTS, texts taken, the LAW that holds and what it is worth, STEPS. */
public final class TextsTest {
    private static final int NONE = BuoyVote.NONE;
    private static final int HIDDEN = BuoyVote.HIDDEN;
    private static final Checks CHECKS = new Checks();

    public static void main(String[] args) {
        newObject();
        feed();
        end();
        boroughFaults();
        boroughNumbers();
        lawFaults();
        lawDepths();
        planFaults();
        texts();
        defaults();
        fullBooks();
        worth();
        conditions();
        steps();
        CHECKS.finish();
    }

    private static void newObject() {
        BuoyVote vote = new BuoyVote();
        for (int what = 0; what <= 12; what++) {
            CHECKS.due("new count(" + what + ")", vote.count(what), what == 5 ? NONE : 0);
        }
        CHECKS.due("new count(13)", vote.count(13), HIDDEN);
        CHECKS.due("new count(-1)", vote.count(-1), HIDDEN);
        CHECKS.due("new rule(2)", vote.rule(2), NONE);
        CHECKS.noSuchBuoy(vote, 0, 0);
        CHECKS.due("new back()", vote.back(), NONE);
        CHECKS.due("new image()", vote.image(), NONE);
        CHECKS.due("new law(NONE)", vote.law(NONE), true);
        CHECKS.due("new law(0)", vote.law(0), false);
        CHECKS.due("new text(0)", vote.text(0), NONE);
        CHECKS.due("new blown(18, 18)", vote.blown(18, 18), 999788);
    }

    private static void feed() {
        BuoyVote vote = new BuoyVote();
        CHECKS.due("feed with zeros", vote.feed(0x62003B00, 0x00630000, 0x3B, 0x63, 0), 5);
        CHECKS.due("fault(0) of b;c;c", vote.fault(0), NONE);
        vote.end(0);
        CHECKS.due("feed of high bytes", vote.feed(0xFFFEFDFC, 0x80808080, -1, 0, 0), 12);
        CHECKS.due("fault(0) of high bytes", vote.fault(0), 0);
        vote.end(0);
        for (int i = 1; i <= 11; i++) {
            CHECKS.due("feed " + i, vote.feed(0x20202020, 0x20202020, 0x20202020, 0x20202020, 0x20202020), 20 * i);
        }
        CHECKS.due("feed of 10", vote.feed(0x20202020, 0x20202020, 0x20200000, 0, 0), 230);
        CHECKS.due("feed of 11", vote.feed(0x20202020, 0x20202020, 0x20202000, 0, 0), NONE);
        CHECKS.due("count(4) behind it", vote.count(4), 230);
        CHECKS.due("feed of 10 again", vote.feed(0, 0, 0x20202020, 0x20202020, 0x20200000), 240);
        CHECKS.due("feed of none", vote.feed(0, 0, 0, 0, 0), 240);
        CHECKS.all("feed of one", new long[] {vote.feed(1, 0, 0, 0, 0), vote.feed(0, 1, 0, 0, 0),
            vote.feed(0, 0, 1, 0, 0), vote.feed(0, 0, 0, 1, 0), vote.feed(0, 0, 0, 0, 1)}, NONE, NONE, NONE, NONE, NONE);
        CHECKS.due("fault(0) of blanks", vote.fault(0), 240);
    }

    private static void end() {
        BuoyVote vote = new BuoyVote();
        CHECKS.due("end(1) of none", vote.end(1), false);
        Checks.tape(vote, "b;c;c;x");
        CHECKS.due("end(-1)", vote.end(-1), false);
        CHECKS.due("end(8)", vote.end(8), false);
        CHECKS.due("count(4)", vote.count(4), 7);
        CHECKS.due("end(7)", vote.end(7), true);
        CHECKS.due("fault(0)", vote.fault(0), 6);
        CHECKS.due("end(5)", vote.end(5), true);
        CHECKS.due("fault(0) of b;c;c", vote.fault(0), NONE);
        CHECKS.due("end(6)", vote.end(6), false);
        CHECKS.due("feed behind it", Checks.more(vote, ";cx3"), 9);
        CHECKS.due("text(0)", vote.text(0), 1);
        CHECKS.due("boat(2, 0)", vote.boat(2, 0), 3);
    }

    private static void boroughFaults() {
        CHECKS.fault(0, "", 0);
        CHECKS.fault(0, "   ", 3);
        CHECKS.fault(0, "b;c;c", NONE);
        CHECKS.fault(0, "c;c;b", NONE);
        CHECKS.fault(0, "c;s;b;c", NONE);
        CHECKS.fault(0, "b;c", 3);
        CHECKS.fault(0, "c;c", 3);
        CHECKS.fault(0, "c;c ", 4);
        CHECKS.fault(0, "s", 1);
        CHECKS.fault(0, "b;c;c;", 6);
        CHECKS.fault(0, "b;c;c; ", 7);
        CHECKS.fault(0, ";b;c;c", 0);
        CHECKS.fault(0, "b;;c;c", 2);
        CHECKS.fault(0, "B;c;c", 0);
        CHECKS.fault(0, "b;c;cb", 5);
        CHECKS.fault(0, "b;c;c;c", NONE);
        CHECKS.fault(0, "b;c;c;c;c", 8);
        CHECKS.fault(0, "c;c;c;c", 6);
        CHECKS.fault(0, "s;s;b;c;c", 2);
        CHECKS.fault(0, "b;c;c;s;s", 8);
        CHECKS.fault(0, "bx0;bx1;bx2;bx3;bx4;bx5;bx6;bx7;c;c", NONE);
        CHECKS.fault(0, "bx0;bx1;bx2;bx3;bx4;bx5;bx6;bx7;b", 32);
        CHECKS.fault(0, "b;b;b;b;b;b;b;b;b", 16);
        CHECKS.fault(0, "bx1y2;by2x1;c;c", 15);
        CHECKS.fault(0, "b;bx0y00;c;c", 12);
        CHECKS.fault(0, "b;b;c;c  ", 9);
        CHECKS.fault(0, "b;b;c;cq", 7);
        CHECKS.fault(0, "bx1y2;by1x2;c;c", NONE);
        CHECKS.fault(0, "bx1x1", 3);
        CHECKS.fault(0, "sw1d2w3", 5);
        CHECKS.fault(0, "bx1;bx2;c;c", NONE);
        CHECKS.fault(0, "sx1", 1);
        CHECKS.fault(0, "ss1", 1);
        CHECKS.fault(0, "bs1", 1);
        CHECKS.fault(0, "bw1", 1);
        CHECKS.fault(0, "ca1", 1);
        CHECKS.fault(0, "cc1", 1);
        CHECKS.fault(0, "b x1 ;c;c", NONE);
    }

    private static void boroughNumbers() {
        CHECKS.fault(0, "sw9d3t12h20;bx9y9c9a9e9f9o3r9;cx9y9s4v9;c", NONE);
        CHECKS.fault(0, "sw0d0t1h1;bx0y0c0a0e0f0o0r0;cx0y0s1v0;c", NONE);
        CHECKS.fault(0, "sw10;b;c;c", 3);
        CHECKS.fault(0, "sd4;b;c;c", 2);
        CHECKS.fault(0, "st0;b;c;c", 2);
        CHECKS.fault(0, "st00;b;c;c", 3);
        CHECKS.fault(0, "st13;b;c;c", 3);
        CHECKS.fault(0, "sh0;b;c;c", 2);
        CHECKS.fault(0, "sh21;b;c;c", 3);
        CHECKS.fault(0, "bx10;c;c", 3);
        CHECKS.fault(0, "by10;c;c", 3);
        CHECKS.fault(0, "bc10;c;c", 3);
        CHECKS.fault(0, "ba10;c;c", 3);
        CHECKS.fault(0, "be10;c;c", 3);
        CHECKS.fault(0, "bf10;c;c", 3);
        CHECKS.fault(0, "bo4;c;c", 2);
        CHECKS.fault(0, "bo04;c;c", 3);
        CHECKS.fault(0, "br10;c;c", 3);
        CHECKS.fault(0, "cx10;c;b", 3);
        CHECKS.fault(0, "cy99;c;b", 3);
        CHECKS.fault(0, "cs0;c;b", 2);
        CHECKS.fault(0, "cs5;c;b", 2);
        CHECKS.fault(0, "cv10;c;b", 3);
        CHECKS.fault(0, "sw09;b;c;c", NONE);
        CHECKS.fault(0, "sw100", 4);
        CHECKS.fault(0, "sw1000", 4);
        CHECKS.fault(0, "sw099", 4);
        CHECKS.fault(0, "sw005;b;c;c", 4);
        CHECKS.fault(0, "st0005", 4);
        CHECKS.fault(0, "sw;b", 2);
        CHECKS.fault(0, "sw", 2);
        CHECKS.fault(0, "sw ", 3);
        CHECKS.fault(0, "sw d1", 3);
        CHECKS.fault(0, "sw1 2", 4);
        CHECKS.fault(0, "sw 10", 4);
        CHECKS.fault(0, "sw-1", 2);
        CHECKS.fault(0, "b1", 1);
    }

    private static void lawFaults() {
        CHECKS.fault(1, "", 0);
        CHECKS.fault(1, "y", 1);
        CHECKS.fault(1, "y:", 2);
        CHECKS.fault(1, "y: ", 3);
        CHECKS.fault(1, "y:v", NONE);
        CHECKS.fault(1, "y:v;", 4);
        CHECKS.fault(1, "y:v;y:l;y:r;y:d;y:p;y:h;y:0", NONE);
        CHECKS.fault(1, "x:v", 0);
        CHECKS.fault(1, "yv", 1);
        CHECKS.fault(1, "y:?", 2);
        CHECKS.fault(1, "y:v?1", 3);
        CHECKS.fault(1, "y:v>1", 5);
        CHECKS.fault(1, "y:v>1?", 6);
        CHECKS.fault(1, "y:v>1?2", NONE);
        CHECKS.fault(1, "y:v>1?2>1", 7);
        CHECKS.fault(1, "y:v>1;y:2", 5);
        CHECKS.fault(1, "y:v>1>2", 5);
        CHECKS.fault(1, "y:v>=1?2", 4);
        CHECKS.fault(1, "y:(v)?1", 4);
        CHECKS.fault(1, "y:(v>1?1", 6);
        CHECKS.fault(1, "y:(v>1)", 7);
        CHECKS.fault(1, "y:(v>1)+1?2", 7);
        CHECKS.fault(1, "y:(v>1)>1?2", 7);
        CHECKS.fault(1, "y:(v>1))?2", 7);
        CHECKS.fault(1, "y:()?2", 3);
        CHECKS.fault(1, "y:!v", 4);
        CHECKS.fault(1, "y:!v?1", 4);
        CHECKS.fault(1, "y:!v=1", 6);
        CHECKS.fault(1, "y:!v=1?v", NONE);
        CHECKS.fault(1, "y:v+(1)", 4);
        CHECKS.fault(1, "y:v=!1", 4);
        CHECKS.fault(1, "y:v=1&!(l=2|r=3)?4", NONE);
        CHECKS.fault(1, "y:v=1&?4", 6);
        CHECKS.fault(1, "y:v=1|&v=2?4", 6);
        CHECKS.fault(1, "y:v&l=1?4", 3);
        CHECKS.fault(1, "y:v=1&l?4", 7);
        CHECKS.fault(1, "y:12345", 6);
        CHECKS.fault(1, "y:1234", NONE);
        CHECKS.fault(1, "y:12 34", 5);
        CHECKS.fault(1, "y:00000", 6);
        CHECKS.fault(1, "y:v+12345", 8);
        CHECKS.fault(1, "y:-1", 2);
        CHECKS.fault(1, "y:1+-1", 4);
        CHECKS.fault(1, "y:1+", 4);
        CHECKS.fault(1, "y:1*/2", 4);
        CHECKS.fault(1, "y:[1", 4);
        CHECKS.fault(1, "y:[1]", NONE);
        CHECKS.fault(1, "y:[]", 3);
        CHECKS.fault(1, "y:[1]]", 5);
        CHECKS.fault(1, "y:[1)", 4);
        CHECKS.fault(1, "y:[v=1]?2", 4);
        CHECKS.fault(1, "y:[v]=1?2", NONE);
        CHECKS.fault(1, "y:a", 2);
        CHECKS.fault(1, "y:vl", 3);
        CHECKS.fault(1, "y:v1", 3);
        CHECKS.fault(1, "y:1v", 3);
        CHECKS.fault(1, "y:v=1?!v=2", 6);
        CHECKS.fault(1, "y:v=1?(v)", 6);
        CHECKS.fault(1, "y:v=1?2?3", 7);
        CHECKS.fault(1, " y : v > 1 ? 2 ; y : [ 3 ] ", NONE);
        CHECKS.fault(1, "y:v;y", 5);
    }

    private static void lawDepths() {
        CHECKS.fault(1, "y:[[[[[[1]]]]]]", NONE);
        CHECKS.fault(1, "y:[[[[[[[1]]]]]]]", 8);
        CHECKS.fault(1, "y:((((((v=1))))))?1", NONE);
        CHECKS.fault(1, "y:(((((((v=1)))))))?1", 8);
        CHECKS.fault(1, "y:!!!!!!v=1?1", NONE);
        CHECKS.fault(1, "y:!!!!!!!v=1?1", 8);
        CHECKS.fault(1, "y:!!!!!!(v=1)?1", 8);
        CHECKS.fault(1, "y:!(!(!(v=1)))?1", NONE);
        CHECKS.fault(1, "y:!(!(!([v]=1)))?1", 8);
        CHECKS.fault(1, "y:!(!(!(v=[1])))?1", 10);
        CHECKS.fault(1, "y:!(!(!(v=1)))&[v]=1?[1]", NONE);
        CHECKS.fault(1, "y:[1]+[1]+[1]+[1]+[1]+[1]+[1]+[1]", NONE);
        CHECKS.fault(1, "y:!v=1&!v=1&!v=1&!v=1&!v=1&!v=1&!v=1?1", NONE);
        CHECKS.fault(1, "y:v>1?[[[[[[[1", 12);
    }

    private static void planFaults() {
        CHECKS.fault(2, "", 0);
        CHECKS.fault(2, " ", 1);
        CHECKS.fault(2, "g012", NONE);
        CHECKS.fault(2, "g01", 3);
        CHECKS.fault(2, "g0123", 4);
        CHECKS.fault(2, "s01", NONE);
        CHECKS.fault(2, "s0", 2);
        CHECKS.fault(2, "s012", 3);
        CHECKS.fault(2, "c99", NONE);
        CHECKS.fault(2, "c9;h1", 2);
        CHECKS.fault(2, "h0", NONE);
        CHECKS.fault(2, "h", 1);
        CHECKS.fault(2, "h55", 2);
        CHECKS.fault(2, "h5;", 3);
        CHECKS.fault(2, ";h5", 0);
        CHECKS.fault(2, "h5;;h5", 3);
        CHECKS.fault(2, "x", 0);
        CHECKS.fault(2, "h5g000", 2);
        CHECKS.fault(2, " g 0 1 2 ; h 3 ", NONE);
        String sixteen = "h1;h1;h1;h1;h1;h1;h1;h1;h1;h1;h1;h1;h1;h1;h1;h1";
        CHECKS.fault(2, sixteen, NONE);
        CHECKS.fault(2, sixteen + " ", NONE);
        CHECKS.fault(2, sixteen + ";", 47);
        CHECKS.fault(2, sixteen + " ;h1", 48);
        CHECKS.fault(2, sixteen + ";h1;h1", 47);
    }

    private static void texts() {
        BuoyVote vote = new BuoyVote();
        Checks.tape(vote, "b;c;c");
        CHECKS.due("fault(-1)", vote.fault(-1), -2);
        CHECKS.due("fault(3)", vote.fault(3), -2);
        CHECKS.due("text(-1)", vote.text(-1), NONE);
        CHECKS.due("text(3)", vote.text(3), NONE);
        CHECKS.due("text(1)", vote.text(1), NONE);
        CHECKS.due("count(4)", vote.count(4), 5);
        CHECKS.due("text(0)", vote.text(0), 1);
        CHECKS.due("count(4) behind text", vote.count(4), 0);
        CHECKS.due("text(0) of none", vote.text(0), NONE);
        CHECKS.rule(vote, "y:v");
        CHECKS.plan(vote, "h1");
        vote.sing(0, 0);
        vote.hours(9);
        vote.seen(0, 0, 0, 0);
        vote.image();
        CHECKS.due("sang", vote.boat(0, 7), 1);
        Checks.tape(vote, "bx1y1;bx2;c;c;c");
        CHECKS.due("text(0) again", vote.text(0), 2);
        CHECKS.all("counts behind another BOROUGH", counts(vote), 2, 3, 1, 1, 0, 0, 0, 0, 4, 0, 0, 0, 0);
        CHECKS.due("undo()", vote.undo(), NONE);
        CHECKS.due("back()", vote.back(), NONE);
        CHECKS.due("log(0, 0)", vote.log(0, 0), NONE);
        CHECKS.due("boat(0, 7)", vote.boat(0, 7), 0);
        CHECKS.due("buoy(0, 3)", vote.buoy(0, 3), 0);
    }

    private static long[] counts(BuoyVote vote) {
        long[] counts = new long[13];
        for (int what = 0; what < 13; what++) {
            counts[what] = vote.count(what);
        }
        return counts;
    }

    private static void defaults() {
        BuoyVote vote = CHECKS.borough("b;c;c");
        CHECKS.all("rules", new long[] {vote.rule(0), vote.rule(1), vote.rule(2), vote.rule(3), vote.rule(4),
            vote.rule(5), vote.rule(-1)}, 2, 0, 6, 8, 1, NONE, NONE);
        CHECKS.all("buoy 0", buoy(vote, 0), 0, 0, 3, 0, 0, 0, NONE, 2, NONE);
        CHECKS.all("boat 1", boat(vote, 1), 0, 0, 2, 3, 0, 0, 0, 0);
        vote = CHECKS.borough("bx1y2c4a5e6f7o1r8;s w9 d3 t12 h20;cx9y8s4v7;bo2;cv1;b x 3 o0");
        CHECKS.all("rules told", new long[] {vote.rule(0), vote.rule(1), vote.rule(2), vote.rule(3)}, 9, 3, 12, 20);
        CHECKS.all("buoy 0 told", buoy(vote, 0), 1, 2, 4, 5, 6, 7, 1, 8, 1);
        CHECKS.all("buoy 1 told", buoy(vote, 1), 0, 0, 3, 0, 0, 0, NONE, 2, NONE);
        CHECKS.due("buoy(2, 6)", vote.buoy(2, 6), 0);
        CHECKS.all("boat 0 told", boat(vote, 0), 9, 8, 4, 7, 9, 8, 0, 0);
        CHECKS.noSuchBuoy(vote, 3, 0);
        CHECKS.noSuchBuoy(vote, -1, 0);
        CHECKS.noSuchBuoy(vote, 0, 9);
        CHECKS.noSuchBuoy(vote, 0, -1);
        CHECKS.due("boat(2, 0)", vote.boat(2, 0), NONE);
        CHECKS.due("boat(-1, 0)", vote.boat(-1, 0), NONE);
        CHECKS.due("boat(0, 8)", vote.boat(0, 8), NONE);
        CHECKS.due("boat(0, -1)", vote.boat(0, -1), NONE);
    }

    private static long[] buoy(BuoyVote vote, int buoy) {
        long[] answers = new long[9];
        for (int what = 0; what < 9; what++) {
            answers[what] = vote.buoy(buoy, what);
        }
        return answers;
    }

    private static long[] boat(BuoyVote vote, int boat) {
        long[] answers = new long[8];
        for (int what = 0; what < 8; what++) {
            answers[what] = vote.boat(boat, what);
        }
        return answers;
    }

    private static void fullBooks() {
        BuoyVote vote = new BuoyVote();
        for (int i = 0; i < 4; i++) {
            Checks.tape(vote, "y:" + i);
            CHECKS.due("text(1)", vote.text(1), i);
            Checks.tape(vote, "h" + i);
            CHECKS.due("text(2)", vote.text(2), i);
        }
        Checks.tape(vote, "y:5");
        CHECKS.due("fault(1) of a fifth", vote.fault(1), NONE);
        CHECKS.due("text(1) of a fifth", vote.text(1), NONE);
        CHECKS.due("count(4) behind it", vote.count(4), 3);
        Checks.tape(vote, "h5");
        CHECKS.due("text(2) of a fifth", vote.text(2), NONE);
        CHECKS.due("count(4) behind it", vote.count(4), 2);
        CHECKS.due("count(2)", vote.count(2), 4);
        CHECKS.due("count(3)", vote.count(3), 4);
        CHECKS.due("law(4)", vote.law(4), false);
        CHECKS.due("law(-2)", vote.law(-2), false);
        CHECKS.due("count(5)", vote.count(5), NONE);
        CHECKS.due("law(3)", vote.law(3), true);
        CHECKS.due("law(3) again", vote.law(3), true);
        Checks.tape(vote, "b;c;c");
        vote.text(0);
        CHECKS.due("count(5) behind a BOROUGH", vote.count(5), 3);
        CHECKS.due("pull by LAW 3", vote.pull(0, 0), 3);
        CHECKS.due("law(1)", vote.law(1), true);
        CHECKS.due("pull by LAW 1", vote.pull(0, 0), 1);
        CHECKS.due("law(NONE)", vote.law(NONE), true);
        CHECKS.due("count(5) behind it", vote.count(5), NONE);
        CHECKS.due("step(3, 0, 1)", vote.step(3, 0, 1), 3);
    }

    /** BOAT 0: v 7, l 4, r 5, d 2, p 1; BOAT 1: v 3, all else 0. */
    private static void pulls(String law, int one, int other) {
        BuoyVote vote = CHECKS.borough("sw0;bc0a4o0r5;cx1y1v7s1;c");
        CHECKS.rule(vote, law);
        CHECKS.due("pull(0, 0) by " + law, vote.pull(0, 0), one);
        CHECKS.due("pull(0, 1) by " + law, vote.pull(0, 1), other);
    }

    private static void worth() {
        pulls("y:v", 7, 3);
        pulls("y:l", 4, 0);
        pulls("y:r", 5, 0);
        pulls("y:d", 2, 0);
        pulls("y:p", 1, 0);
        pulls("y:h", 0, 0);
        pulls("y:v+l*r", 27, 3);
        pulls("y:v-l-r", -2, 3);
        pulls("y:[v-l]*r", 15, 0);
        pulls("y:9-7/2*2", 3, 3);
        pulls("y:[0-7]/2", -3, -3);
        pulls("y:7/0", 0, 0);
        pulls("y:7/0+2", 2, 2);
        pulls("y:100", 99, 99);
        pulls("y:0-100", -99, -99);
        pulls("y:99", 99, 99);
        pulls("y:9999*9999/9999-90", 10, 10);
        pulls("y:[0-9999]*9999/9999+105", 5, 5);
        pulls("y:[9999*9999+9999*9999]/9999-90", 10, 10);
        pulls("y:[0-9999*9999-9999*9999]/9999+105", 5, 5);
        pulls("y:20/3/2", 3, 3);
        pulls("y:2*3/4*5", 5, 5);
        pulls("y:[[[[[[v]+1]+1]+1]+1]+1]", 12, 8);
        BuoyVote vote = CHECKS.borough("b;c;c");
        CHECKS.rule(vote, "y:h*3");
        vote.hours(7);
        CHECKS.due("pull in HOUR 7", vote.pull(0, 0), 21);
    }

    private static void conditions() {
        pulls("y:v>7?1;y:v=7?2;y:3", 2, 3);
        pulls("y:v>7?1", 0, 0);
        pulls("y:v<7?1", 0, 1);
        pulls("y:v<7|l=4&r=0?1;y:2", 2, 1);
        pulls("y:l=4|v<7&r=1?1;y:2", 1, 2);
        pulls("y:(l=4|v<7)&r=0?1;y:2", 2, 1);
        pulls("y:!v=7?1;y:2", 2, 1);
        pulls("y:!!v=7?1;y:2", 1, 2);
        pulls("y:!v=1&l=0?1;y:2", 2, 1);
        pulls("y:!(v=1&l=0)?1;y:2", 1, 1);
        pulls("y:v+l>r+5?1;y:2", 1, 2);
        pulls("y:v=7&l=4&r=5&d=2&p=1&h=0?1;y:2", 1, 2);
        pulls("y:v=1|v=2|v=3?1;y:2", 2, 1);
        pulls("y:1;y:2", 1, 1);
        pulls("y:[v]=7?[l];y:[9-v]*2", 4, 12);
    }

    private static void steps() {
        BuoyVote vote = new BuoyVote();
        CHECKS.due("plan number", CHECKS.plan(vote, "g 1 2 3;s45;c 6 7;h8"), 0);
        long[][] want = {{0, 1, 2, 3}, {1, 4, 5, NONE}, {2, 6, 7, NONE}, {3, 8, NONE, NONE}};
        for (int i = 0; i < 4; i++) {
            for (int what = 0; what < 4; what++) {
                CHECKS.due("step(0, " + i + ", " + what + ")", vote.step(0, i, what), want[i][what]);
            }
        }
        CHECKS.due("step(0, 4, 0)", vote.step(0, 4, 0), HIDDEN);
        CHECKS.due("step(0, -1, 0)", vote.step(0, -1, 0), HIDDEN);
        CHECKS.due("step(0, 0, 4)", vote.step(0, 0, 4), HIDDEN);
        CHECKS.due("step(0, 0, -1)", vote.step(0, 0, -1), HIDDEN);
        CHECKS.due("step(1, 0, 0)", vote.step(1, 0, 0), HIDDEN);
        CHECKS.due("step(-1, 0, 0)", vote.step(-1, 0, 0), HIDDEN);
        // What is only tried as a PLAN leaves those that are kept alone.
        Checks.tape(vote, "h1;h2;x");
        CHECKS.due("fault(2)", vote.fault(2), 6);
        CHECKS.due("step(0, 0, 0) still", vote.step(0, 0, 0), 0);
        CHECKS.due("step(1, 0, 0) still", vote.step(1, 0, 0), HIDDEN);
    }
}
