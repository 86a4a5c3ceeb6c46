/** Objects in states from which refused calls are tried. */
final class Scenes {
    private Scenes() { }

    static void tell(BuoyVote vote, int sort, String text) {
        Checks.tape(vote, text);
        if (vote.text(sort) < 0) {
            throw new IllegalStateException("not taken: " + text);
        }
    }

    /** LAWS, of which one holds, PLANS and bytes on the TAPE, but no BOROUGH. */
    static void noBorough(BuoyVote vote) {
        tell(vote, 1, "y:v+l+r+p-d");
        tell(vote, 1, "y:d=0?9;y:v-d");
        vote.law(1);
        tell(vote, 2, "s00;g133;h2;c11");
        tell(vote, 2, "h9");
        Checks.tape(vote, "b;c;cx12");
    }

    /** Something of all: three BUOYS, three BOATS, LAWS, PLANS, SEEN, an IMAGE, a LOG, ACTS, bytes on the TAPE. */
    static void rich(BuoyVote vote) {
        tell(vote, 0, "sw3d1t3h4;bx1y1c2a3e2o0r4;bx3y1a1o1;bx8y8f9r0;cx1y2s1v4;cx3y2v5;cx7y8s3");
        noBorough(vote);
        vote.law(0);
        vote.seen(0, 3, 3, 0);
        vote.seen(1, 2, 1, 2);
        vote.sing(0, 0);
        vote.hours(3);
        vote.scrape(0, 0);
        vote.image();
        vote.row(1, 5, 5);
        vote.wind(4, 2);
        vote.hours(2);
        vote.sing(2, 2);
        vote.scrape(0, 0);
    }

    /** As much as there can be: BUOYS, BOATS, LAWS, PLANS, SEEN, LOG, ACTS, and a TAPE of 240 bytes with that text. */
    static void full(BuoyVote vote, String text) {
        tell(vote, 0, "sw3h4;b;bx1;bx2;bx3;bx4;bx5;bx6;bx7;c;cx7;cx3y5v9");
        for (int i = 0; i < 4; i++) {
            tell(vote, 1, "y:v*2+l-d*" + i);
            tell(vote, 2, "h" + i);
        }
        vote.law(3);
        for (int i = 0; i < 10; i++) {
            vote.seen(i % 3, i, 18 - i, 2);
        }
        vote.years(50, 3);
        vote.image();
        vote.years(50, 4);
        StringBuilder long240 = new StringBuilder(text);
        while (long240.length() < 240) {
            long240.append(' ');
        }
        Checks.tape(vote, long240.toString());
    }

    /** In that HOUR (60 HOURS a call), with a PLAN of one HOUR, rich in ACTS. */
    static void inHour(BuoyVote vote, int hour) {
        tell(vote, 0, "sw1;bc4;bx3;cv5s1;cx9v4s2");
        tell(vote, 2, "h1");
        for (int left = hour; left > 0; left -= 60) {
            vote.hours(Math.min(left, 60));
        }
        vote.row(0, 9, 9);
        vote.image();
        vote.row(1, 0, 9);
        vote.wind(5, 3);
    }
}
