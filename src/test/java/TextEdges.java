import java.util.ArrayList;
import java.util.List;

/** Bounds of the TAPE and of what is told as a TEXT: part 1 of the terms, promises 1 to 5, 9, 20. */
final class TextEdges {
    private static final int NONE = BuoyVote.NONE;
    private static final int HIDDEN = BuoyVote.HIDDEN;
    private static final String DIGITS = "0123456789";
    private static final String ATOMS = DIGITS + "vlrdph[";
    private static final String JOINTS = "+-*/";
    private static final String SIXTEEN = "h1;h1;h1;h1;h1;h1;h1;h1;h1;h1;h1;h1;h1;h1;h1;h1";

    private final Edges edges;

    TextEdges(Edges edges) {
        this.edges = edges;
    }

    void run() {
        newObject();
        feed();
        feedTooMuch();
        end();
        fault();
        text();
        textRefused();
        law();
        step();
        clauses();
        items();
        letters();
        rules();
        buoys();
        boats();
        lawClauses();
        conditions();
        sums();
        depths();
        bounds();
        worths();
        plans();
        blanks();
        faultAtTheEnd();
        faultsInside();
        notThere();
    }

    private void newObject() {
        edges.sentence("A new object", "No BOROUGH.");
        BuoyVote vote = new BuoyVote();
        for (int what = 0; what <= 12; what++) {
            edges.due("count(" + what + ")", vote.count(what), what == 5 ? NONE : 0);
        }
        for (int what = 0; what <= 4; what++) {
            edges.due("rule(" + what + ")", vote.rule(what), NONE);
        }
        edges.due("image()", vote.image(), NONE);
        edges.due("undo()", vote.undo(), NONE);
        edges.due("fault(0) of an empty TAPE", vote.fault(0), 0);

        edges.sentence("Terms", "The constants: `NONE = -1`: None; refused.");
        edges.due("NONE", BuoyVote.NONE, -1);
        edges.sentence("Terms", "`HIDDEN = -1000000`: Not told.");
        edges.due("HIDDEN", BuoyVote.HIDDEN, -1000000);
    }

    private void feed() {
        edges.sentence("feed", "Twenty bytes more come to the TAPE (of each number the highest first; bytes of 0 are "
            + "left out): how many it has.");
        BuoyVote vote = new BuoyVote();
        edges.due("the highest first", vote.feed(0x623B633B, 0x63783176, 0x323B6279, 0x3963363B, 0x73773968), 20);
        edges.due("two bytes more", vote.feed(0x32300000, 0, 0, 0, 0), 22);
        edges.due("text(0) of b;c;cx1v2;by9c6;sw9h20", vote.text(0), 2);
        edges.all("told so", new long[] {vote.boat(1, 0), vote.boat(1, 3), vote.buoy(1, 1), vote.buoy(1, 2), vote.rule(0),
            vote.rule(3)}, 1, 2, 9, 6, 9, 20);
        for (int place = 0; place < 20; place++) {
            int[] words = new int[5];
            words[place / 4] = 0x62 << 24 - place % 4 * 8;
            vote = new BuoyVote();
            edges.due("one byte, in place " + place, vote.feed(words[0], words[1], words[2], words[3], words[4]), 1);
            edges.due("that is a b", vote.fault(0), 1);
        }
        vote = new BuoyVote();
        edges.due("bytes of 0 between", vote.feed(0x62003B00, 0x00006300, 0x0000003B, 0x63000000, 0), 5);
        edges.due("b;c;c", vote.fault(0), NONE);
        edges.due("bytes of 0 alone", vote.feed(0, 0, 0, 0, 0), 5);
        edges.due("bytes of 255 and 128", vote.feed(-1, 0x80808080, 0, 0, 0), 13);
        edges.due("the first of them", vote.fault(0), 5);
    }

    private void feedTooMuch() {
        edges.sentence("feed", "NONE: more than 240.");
        for (int have = 218; have <= 240; have++) {
            int length = have;
            for (int more = 0; more <= 20; more++) {
                int[] words = words(more);
                Edges.Setup fed = v -> Checks.more(v, " ".repeat(length));
                Edges.Call feed = v -> v.feed(words[0], words[1], words[2], words[3], words[4]);
                if (have + more <= 240) {
                    edges.due("feed of " + more + " behind " + have, feed.on(Edges.after(fed)), have + more);
                } else {
                    edges.refused("feed of " + more + " behind " + have, fed, feed, NONE);
                }
            }
        }
        edges.refused("feed of a byte when full", v -> Scenes.full(v, "b;c;c"), v -> v.feed(0, 0, 0, 0, 7), NONE);
        for (int value = 1; value < 256; value++) {
            int word = value;
            for (int shift = 0; shift < 32; shift += 8) {
                int moved = word << shift;
                BuoyVote vote = Edges.after(v -> Checks.more(v, " ".repeat(239)));
                edges.due("feed of byte " + value, vote.feed(0, moved, 0, 0, 0), 240);
                edges.due("feed of byte " + value + " more", vote.feed(0, 0, moved, 0, 0), NONE);
            }
        }
    }

    private static int[] words(int bytes) {
        int[] words = new int[5];
        for (int i = 0; i < bytes; i++) {
            words[i / 4] |= 0x79 << 24 - i % 4 * 8;
        }
        return words;
    }

    private void end() {
        edges.sentence("end", "The TAPE has its first n bytes alone.");
        String text = "b;c;cx1;q";
        int[] faults = {0, 1, 2, 3, 4, NONE, 6, NONE, 8, 8};
        for (int n = 0; n <= text.length(); n++) {
            BuoyVote vote = new BuoyVote();
            Checks.tape(vote, text);
            edges.due("end(" + n + ")", vote.end(n), true);
            edges.due("count(4)", vote.count(4), n);
            edges.due("fault(0) of the first " + n, vote.fault(0), faults[n]);
            edges.due("feed behind it", vote.feed(0x3B000000, 0, 0, 0, 0), n + 1);
        }
        edges.due("end(0) of an empty TAPE", new BuoyVote().end(0), true);
        edges.due("end(240) of 240", Edges.after(v -> Scenes.full(v, "b")).end(240), true);

        edges.sentence("end", "False: n.");
        edges.bounds("end", Scenes::rich, 0, new int[] {3}, new int[] {0, 8});
        edges.bounds("end", v -> { }, 0, new int[] {0}, new int[] {0, 0});
        edges.bounds("end", v -> Scenes.full(v, "b"), 0, new int[] {3}, new int[] {0, 240});
    }

    private void fault() {
        edges.sentence("fault", "The FAULT of the TAPE as a BOROUGH (0), a LAW (1), a PLAN (2).");
        BuoyVote vote = new BuoyVote();
        Checks.tape(vote, "c01;y:1");
        edges.all("c01;y:1 as each", new long[] {vote.fault(0), vote.fault(1), vote.fault(2)}, 1, 0, 4);
        for (int sort = 0; sort < 3; sort++) {
            int asked = sort;
            edges.unchanged("fault(" + sort + ")", Scenes::rich, v -> v.fault(asked));
            for (String text : new String[] {"b;c;c", "y:1", "h1", "h1;h2;q"}) {
                edges.unchanged("fault(" + sort + ")", v -> Scenes.full(v, text), v -> v.fault(asked));
            }
        }

        justThat("sw9d3t12h20;bx9y9c9a9e9o1r9;bx8;bx7;cx9y9s4v9;c;c");
        justThat("sw9d3t12h20;bx9y9c9a9e9o1r9;bx8;bx7;cx9y9s4v9;c;c;q");
        justThat("y:5;y:6");
        justThat("y:v=0?5;y:4;q");
        justThat("g999;s88;c77;h6");
        justThat("g999;s88;c77;q");

        edges.sentence("fault", "NONE: none.");
        String[] right = {"b;c;c", "y:0", "h0"};
        for (int sort = 0; sort < 3; sort++) {
            for (int text = 0; text < 3; text++) {
                vote = new BuoyVote();
                Checks.tape(vote, right[text]);
                edges.due("fault(" + sort + ") of " + right[text], vote.fault(sort) == NONE, sort == text);
            }
        }

        edges.sentence("fault", "-2: no such sort.");
        edges.bounds("fault", Scenes::rich, -2, new int[] {0}, new int[] {0, 2});
        edges.due("fault(3) of an empty TAPE", new BuoyVote().fault(3), -2);
    }

    /** A text that was only tried, as whatever sort, leaves nothing in those that are told behind it. */
    private void justThat(String tried) {
        BuoyVote vote = new BuoyVote();
        Checks.tape(vote, tried);
        for (int sort = 0; sort < 3; sort++) {
            vote.fault(sort);
        }
        Checks.tape(vote, "b;c;c");
        edges.due("text(0) behind " + tried, vote.text(0), 1);
        edges.all("just that BOROUGH", new long[] {vote.rule(0), vote.rule(1), vote.rule(2), vote.rule(3), vote.count(0),
            vote.count(1), vote.buoy(0, 0), vote.buoy(0, 2), vote.buoy(0, 3), vote.buoy(0, 6), vote.buoy(0, 7), vote.boat(0, 0),
            vote.boat(0, 2), vote.boat(0, 3)}, 2, 0, 6, 8, 1, 2, 0, 3, 0, NONE, 2, 0, 2, 3);
        Checks.tape(vote, tried);
        vote.fault(1);
        Checks.tape(vote, "y:v=3?7");
        edges.due("text(1) behind " + tried, vote.text(1), 0);
        vote.law(0);
        edges.due("just that LAW", vote.pull(0, 0), 7);
        Checks.tape(vote, tried);
        vote.fault(2);
        Checks.tape(vote, "h3");
        edges.due("text(2) behind " + tried, vote.text(2), 0);
        edges.all("just that PLAN", new long[] {vote.step(0, 0, 0), vote.step(0, 0, 1), vote.step(0, 0, 2), vote.step(0, 0, 3),
            vote.step(0, 1, 0)}, 3, 3, NONE, NONE, HIDDEN);
    }

    private void text() {
        edges.sentence("text", "The TAPE (empty then) is the BOROUGH (HOUR 0; all that was of another one, SEEN, too, "
            + "is gone but LAWS, which holds, PLANS): how many BUOYS; a LAW, a PLAN: its number.");
        BuoyVote vote = Edges.after(Scenes::rich);
        Checks.tape(vote, "b;bx1;c;cx7y7s4v9");
        edges.due("text(0)", vote.text(0), 2);
        // Of the two BUOYS the first LEANS to BOAT 0: 3 by VOICE, 3 is its CHAIN.
        edges.all("behind another", counts(vote), 2, 2, 2, 2, 0, 0, 0, 1, 4, 0, 0, 0, 0);
        edges.all("usual RULES", new long[] {vote.rule(0), vote.rule(1), vote.rule(2), vote.rule(3), vote.rule(4)},
            2, 0, 6, 8, 1);
        edges.all("BOATS at first", new long[] {vote.boat(0, 6), vote.boat(0, 7), vote.boat(1, 4), vote.boat(1, 5),
            vote.boat(2, 0)}, 0, 0, 7, 7, NONE);
        edges.all("gone", new long[] {vote.undo(), vote.back(), vote.log(0, 0), vote.likes(0, NONE)}, NONE, NONE, NONE, 100);
        edges.due("PLANS stay", vote.step(0, 1, 3), 3);
        vote = Edges.after(v -> Scenes.full(v, "b;c;c"));
        edges.due("text(0) though there are four of all else", vote.text(0), 1);
        edges.all("behind what was full", counts(vote), 1, 2, 4, 4, 0, 3, 0, 0, 2, 0, 0, 0, 0);
        for (int i = 0; i < 6; i++) {
            Checks.tape(vote, i % 2 == 0 ? "b;c;c" : "b;bx1;c;c");
            edges.due("BOROUGHS without end", vote.text(0), 1 + i % 2);
        }
        vote = new BuoyVote();
        for (int i = 0; i < 4; i++) {
            Checks.tape(vote, "y:" + i);
            edges.due("LAW " + i, vote.text(1), i);
            edges.due("the TAPE is empty", vote.count(4), 0);
            Checks.tape(vote, "h" + i);
            edges.due("PLAN " + i, vote.text(2), i);
            edges.due("the TAPE is empty", vote.count(4), 0);
        }
    }

    private void textRefused() {
        edges.sentence("text", "NONE: a FAULT, no such sort, there are four.");
        for (int sort = 0; sort < 3; sort++) {
            edges.beyond("text", Scenes::rich, NONE, sort);
            edges.beyond("text", Scenes::noBorough, NONE, sort);
            edges.beyond("text", v -> { }, NONE, sort);
            edges.beyond("text", v -> {
                Scenes.rich(v);
                v.end(0);
            }, NONE, sort);
        }
        for (String text : new String[] {"b;c;c", "y:1", "h1"}) {
            for (int sort : new int[] {-1, 3, Integer.MIN_VALUE, Integer.MAX_VALUE}) {
                edges.beyond("text", v -> {
                    Scenes.rich(v);
                    Checks.tape(v, text);
                }, NONE, sort);
            }
        }
        edges.beyond("text", v -> Scenes.full(v, "y:5"), NONE, 1);
        edges.beyond("text", v -> Scenes.full(v, "h5"), NONE, 2);

        edges.sentence("Terms", "LAWS (4 at most)");
        edges.due("count(2)", Edges.after(v -> Scenes.full(v, "")).count(2), 4);
        edges.sentence("Terms", "PLANS (4 at most)");
        edges.due("count(3)", Edges.after(v -> Scenes.full(v, "")).count(3), 4);
    }

    private static long[] counts(BuoyVote vote) {
        long[] counts = new long[13];
        for (int what = 0; what < 13; what++) {
            counts[what] = vote.count(what);
        }
        return counts;
    }

    private void law() {
        edges.sentence("law", "The LAW that holds (NONE: none).");
        BuoyVote vote = Edges.after(v -> Scenes.full(v, ""));
        for (int law : new int[] {0, NONE, 3, 3, NONE, NONE, 2}) {
            edges.due("law(" + law + ")", vote.law(law), true);
            edges.due("count(5)", vote.count(5), law);
        }
        edges.due("law(NONE) of a new object", new BuoyVote().law(NONE), true);

        edges.sentence("law", "False: no such one.");
        edges.bounds("law", Scenes::rich, 0, new int[] {0}, new int[] {NONE, 1});
        edges.bounds("law", Scenes::noBorough, 0, new int[] {0}, new int[] {NONE, 1});
        edges.bounds("law", v -> Scenes.full(v, ""), 0, new int[] {0}, new int[] {NONE, 3});
        edges.bounds("law", v -> { }, 0, new int[] {NONE}, new int[] {NONE, NONE});
    }

    private void step() {
        edges.sentence("step", "A STEP of a PLAN: 0 what (0 g, 1 s, 2 c, 3 h), 1 the first digit, 2 the second one "
            + "(NONE), 3 the third one (NONE).");
        BuoyVote vote = new BuoyVote();
        int plan = edges.plan(vote, "g987;s90;c09;h9;g000;s00;c00;h0");
        long[][] want = {{0, 9, 8, 7}, {1, 9, 0, NONE}, {2, 0, 9, NONE}, {3, 9, NONE, NONE},
            {0, 0, 0, 0}, {1, 0, 0, NONE}, {2, 0, 0, NONE}, {3, 0, NONE, NONE}};
        for (int i = 0; i < want.length; i++) {
            for (int what = 0; what <= 3; what++) {
                edges.due("step(" + plan + ", " + i + ", " + what + ")", vote.step(plan, i, what), want[i][what]);
            }
        }

        edges.sentence("step", "HIDDEN: no such ones.");
        edges.bounds("step", Scenes::rich, HIDDEN, new int[] {0, 0, 1}, new int[] {0, 1}, new int[] {0, 3}, new int[] {0, 3});
        edges.bounds("step", Scenes::noBorough, HIDDEN, new int[] {1, 0, 1}, new int[] {0, 1}, new int[] {0, 0},
            new int[] {0, 3});
        edges.bounds("step", v -> Scenes.tell(v, 2, SIXTEEN), HIDDEN, new int[] {0, 15, 0}, new int[] {0, 0},
            new int[] {0, 15}, new int[] {0, 3});
        edges.beyond("step", v -> { }, HIDDEN, 0, 0, 0);
    }

    private static String joined(int count, String... texts) {
        List<String> clauses = new ArrayList<>();
        for (int i = 0; i < count; i++) {
            clauses.add(texts[0] + (texts[0].equals("b") ? "y" + i : ""));
        }
        for (int i = 1; i < texts.length; i++) {
            clauses.add(texts[i]);
        }
        return String.join(";", clauses);
    }

    private void clauses() {
        edges.sentence("Terms", "s (its RULES; one at most)");
        edges.fault(0, "b;c;c", NONE);
        edges.fault(0, "s;b;c;c", NONE);
        edges.fault(0, "b;c;c;s", NONE);
        edges.fault(0, "s;s;b;c;c", 2);
        edges.fault(0, "sw1;b;c;c;sd1", 10);

        edges.sentence("Terms", "b (a BUOY; 1 .. 8)");
        edges.fault(0, "c;c", 3);
        for (int buoys = 1; buoys <= 8; buoys++) {
            String text = joined(buoys, "b", "c", "c");
            edges.fault(0, text, NONE);
            BuoyVote vote = new BuoyVote();
            Checks.tape(vote, text);
            edges.due("text(0) of " + text, vote.text(0), buoys);
            edges.due("count(0)", vote.count(0), buoys);
        }
        edges.fault(0, joined(9, "b", "c", "c"), 8 * 4);
        edges.fault(0, "c;c;" + joined(9, "b"), 4 + 8 * 4);

        edges.sentence("Terms", "c (a BOAT; 2 .. 3)");
        edges.fault(0, "b", 1);
        edges.fault(0, "b;c", 3);
        for (int boats = 2; boats <= 3; boats++) {
            BuoyVote vote = edges.borough(joined(boats, "c", "b"));
            edges.due("count(1)", vote.count(1), boats);
        }
        edges.fault(0, "b;c;c;c;c", 8);
        edges.fault(0, "c;c;c;c;b", 6);

        edges.sentence("Terms", "in any order, then ITEMS, none or more");
        for (String text : new String[] {"s;b;c;c", "s;c;b;c", "s;c;c;b", "b;s;c;c", "c;s;b;c", "c;s;c;b", "b;c;s;c",
            "c;b;s;c", "c;c;s;b", "b;c;c;s", "c;b;c;s", "c;c;b;s"}) {
            edges.fault(0, text, NONE);
        }

        edges.sentence("Terms", "A BOROUGH is a TEXT: CLAUSES with ; between");
        edges.fault(0, "", 0);
        edges.fault(0, ";b;c;c", 0);
        edges.fault(0, "b;;c;c", 2);
        edges.fault(0, "b;c;c;", 6);
        edges.fault(0, "b;c;c;;", 6);
        edges.fault(0, "b;cc", 3);
        edges.fault(0, "bc;c;c", 2);
        edges.fault(0, "b c;c;c", 3);
    }

    private void items() {
        edges.sentence("Terms", "a letter, each once at most in a CLAUSE");
        String[] kinds = {"swdth", "bxycaefor", "cxysv"};
        for (String kind : kinds) {
            StringBuilder all = new StringBuilder(kind.substring(0, 1));
            for (char letter : kind.substring(1).toCharArray()) {
                all.append(letter).append('1');
                edges.fault(0, kind.charAt(0) + "" + letter + 1 + letter + 1, 3);
            }
            for (char letter : kind.substring(1).toCharArray()) {
                edges.fault(0, all + "" + letter + "1", all.length());
            }
        }
        edges.fault(0, "bx1y1c1;bx2y1c1;cx1y1;cx1y1", NONE);

        edges.sentence("Terms", "and a number (one or two digits)");
        edges.fault(0, "sw;b;c;c", 2);
        edges.fault(0, "swd1;b;c;c", 2);
        edges.fault(0, "sw1;b;c;c", NONE);
        edges.fault(0, "sw01;b;c;c", NONE);
        edges.fault(0, "sw001;b;c;c", 4);
        edges.fault(0, "sw-1;b;c;c", 2);
    }

    private void letters() {
        edges.sentence("Terms", "FAULT: the first byte at which no such TEXT can go on");
        edges.next(0, "", "sbc");
        edges.next(0, "s", "wdth;");
        edges.next(0, "b", "xycaefor;");
        edges.next(0, "c", "xysv;");
        edges.next(0, "b;", "sbc");
        edges.next(0, "s;", "bc");
        edges.next(0, "b;c;c;c;", "sb");
        edges.next(0, "s;c;c;c;", "b");
        edges.next(0, joined(8, "b") + ";", "sc");
        edges.next(0, "sw", DIGITS);
        edges.next(0, "sw0", DIGITS + "dth;");
        edges.next(0, "sw9", "dth;");
        edges.next(0, "sw09", "dth;");
        edges.next(0, "st1", "012wdh;");
        edges.next(0, "sh1", DIGITS + "wdt;");
        edges.next(0, "sh2", "0wdt;");
        edges.next(0, "sd3w1", "th;");
        edges.next(0, "bo0", "0123xycaefr;");
        edges.next(0, "b;c;c", "xysv;");
        edges.next(0, "b;c;cx1", "ysv;");
        edges.next(0, "b;c;cs1", "xyv;");
    }

    /** Where a value that was told is to be read. */
    private interface Reader {
        int of(BuoyVote vote);
    }

    private void numbers(String clause, int low, int high, int usual, Reader reader) {
        String rest = clause.startsWith("s") ? ";b;c;c" : clause.startsWith("b") ? ";c;c" : ";b;c";
        for (int value = 0; value <= 99; value++) {
            for (String form : value < 10 ? List.of("" + value, "0" + value) : List.of("" + value)) {
                boolean within = value >= low && value <= high;
                edges.fault(0, clause + form + rest, within ? NONE : clause.length() + form.length() - 1);
                if (within) {
                    edges.due(clause + form, reader.of(edges.borough(clause + form + rest)), value);
                }
            }
        }
        for (String form : new String[] {"000", "001", "100", "999", "0000"}) {
            edges.fault(0, clause + form + rest, clause.length() + 2);
        }
        edges.fault(0, clause, clause.length());
        edges.due(clause + " not told", reader.of(edges.borough(clause.substring(0, 1) + rest)), usual);
    }

    private void rules() {
        edges.sentence("Terms", "of s: w WIND (0 .. 9; 2 without)");
        numbers("sw", 0, 9, 2, vote -> vote.rule(0));
        edges.sentence("Terms", "d the way it blows (0 right, 1 down, 2 left, 3 up; 0)");
        numbers("sd", 0, 3, 0, vote -> vote.rule(1));
        edges.sentence("Terms", "t HOURS that the TIDE rises (1 .. 12; 6)");
        numbers("st", 1, 12, 6, vote -> vote.rule(2));
        edges.sentence("Terms", "h HOURS from one COUNT to the next (1 .. 20; 8)");
        numbers("sh", 1, 20, 8, vote -> vote.rule(3));
        edges.sentence("Terms", "w WIND (0 .. 9; 2 without)");
        BuoyVote vote = edges.borough("b;c;c");
        edges.all("without s", new long[] {vote.rule(0), vote.rule(1), vote.rule(2), vote.rule(3)}, 2, 0, 6, 8);
    }

    private void buoys() {
        edges.sentence("Terms", "of b: x, y (0 .. 9; 0)");
        numbers("bx", 0, 9, 0, vote -> vote.buoy(0, 0));
        numbers("by", 0, 9, 0, vote -> vote.buoy(0, 1));
        edges.sentence("Terms", "c CHAIN (0 .. 9; 3)");
        numbers("bc", 0, 9, 3, vote -> vote.buoy(0, 2));
        edges.sentence("Terms", "a LIKING of BOAT 0, e of BOAT 1, f of BOAT 2 (0 .. 9; 0)");
        numbers("ba", 0, 9, 0, vote -> vote.buoy(0, 3));
        numbers("be", 0, 9, 0, vote -> vote.buoy(0, 4));
        for (int f = 0; f <= 9; f++) {
            edges.due("f" + f, edges.borough("bf" + f + ";c;c;c").buoy(0, 5), f);
        }
        edges.fault(0, "bf10;c;c;c", 3);
        edges.fault(0, "bf009;c;c;c", 4);
        edges.due("f not told", edges.borough("b;c;c;c").buoy(0, 5), 0);
        edges.sentence("Terms", "o the OLD vote (a BOAT 0 .. 2; 3: none; 3)");
        for (int o = 0; o <= 3; o++) {
            edges.due("o" + o, edges.borough("bo" + o + ";c;c;c").buoy(0, 6), o < 3 ? o : NONE);
        }
        edges.due("o not told", edges.borough("b;c;c;c").buoy(0, 6), NONE);
        for (int o = 4; o <= 99; o++) {
            edges.fault(0, "bo" + o + ";c;c;c", o < 10 ? 2 : 3);
        }
        edges.sentence("Terms", "r BARNACLES (0 .. 9; 2)");
        numbers("br", 0, 9, 2, vote -> vote.buoy(0, 7));
    }

    private void boats() {
        edges.sentence("Terms", "of c: x, y (0 .. 9; 0)");
        numbers("cx", 0, 9, 0, vote -> vote.boat(0, 0));
        numbers("cy", 0, 9, 0, vote -> vote.boat(0, 1));
        edges.sentence("Terms", "s SPEED (1 .. 4; 2)");
        numbers("cs", 1, 4, 2, vote -> vote.boat(0, 2));
        edges.sentence("Terms", "v VOICE (0 .. 9; 3)");
        numbers("cv", 0, 9, 3, vote -> vote.boat(0, 3));
    }

    private void lawClauses() {
        edges.sentence("Terms", "CLAUSES with ; between, one at least: y, : , perhaps CONDITION ?, then SUM");
        edges.fault(1, "", 0);
        edges.fault(1, "y", 1);
        edges.fault(1, "y:", 2);
        edges.fault(1, "y:v", NONE);
        edges.fault(1, "y:v=1?v", NONE);
        edges.fault(1, "y:v;", 4);
        edges.fault(1, ";y:v", 0);
        edges.fault(1, "y:v;;y:v", 4);
        edges.fault(1, "y:v=1?", 6);
        edges.fault(1, "y:v=1", 5);
        edges.fault(1, "y:?v", 2);
        edges.fault(1, "y:1;".repeat(59) + "y:1", NONE);
        edges.fault(1, "y:1;".repeat(60), 240);
        edges.next(1, "", "y");
        edges.next(1, "y", ":");
        edges.next(1, "y:", ATOMS + "!(");
        edges.next(1, "y:v;", "y");
        edges.next(1, "y:v=1?", ATOMS);
        edges.next(1, "y:v=1?v", JOINTS + ";");
        edges.next(1, "y:v=1?1", JOINTS + ";" + DIGITS);
        edges.next(1, "y:v=1?v;y:v", JOINTS + "=<>;");

        edges.sentence("Terms", "(A CLAUSE that goes on with ! or ( behind its : has a CONDITION.)");
        edges.fault(1, "y:(v)", 4);
        edges.fault(1, "y:(v+1)*2", 6);
        edges.fault(1, "y:(v=1)", 7);
        edges.fault(1, "y:(v=1)?2", NONE);
        edges.fault(1, "y:!v", 4);
        edges.fault(1, "y:!v=1", 6);
        edges.fault(1, "y:!v=1?2", NONE);
        edges.fault(1, "y:v+(1)", 4);
        edges.fault(1, "y:v=1?(v)", 6);
        edges.fault(1, "y:v=1?!v", 6);
    }

    private void conditions() {
        edges.sentence("Terms", "CONDITION: TRUTHS with | between; TRUTH: UNITS with & between; UNIT: ! UNIT, ( "
            + "CONDITION ), or SUM, one of = < >, SUM.");
        edges.next(1, "y:v=", ATOMS);
        edges.next(1, "y:v<", ATOMS);
        edges.next(1, "y:v>", ATOMS);
        edges.next(1, "y:v=v", JOINTS + "&|?");
        edges.next(1, "y:v=1&", ATOMS + "!(");
        edges.next(1, "y:v=1|", ATOMS + "!(");
        edges.next(1, "y:v=1&v", JOINTS + "=<>");
        edges.next(1, "y:!", ATOMS + "!(");
        edges.next(1, "y:!v", JOINTS + "=<>");
        edges.next(1, "y:!v=v", JOINTS + "&|?");
        edges.next(1, "y:(", ATOMS + "!(");
        edges.next(1, "y:(v", JOINTS + "=<>");
        edges.next(1, "y:(v=v", JOINTS + "&|)");
        edges.next(1, "y:(v=v)", "&|?");
        edges.next(1, "y:((v=v)", "&|)");
        edges.next(1, "y:!(v=v)", "&|?");
        draws("y:v=6?1;y:2", 2, 2);
        draws("y:v=7?1;y:2", 1, 2);
        draws("y:v<7?1;y:2", 2, 1);
        draws("y:v>7?1;y:2", 2, 2);
        draws("y:v<8?1;y:2", 1, 1);
        draws("y:v>6?1;y:2", 1, 2);
        draws("y:v=7|v=3?1;y:2", 1, 1);
        draws("y:v=7&v=3?1;y:2", 2, 2);
        draws("y:v=3|v=7&l=0?1;y:2", 2, 1);
        draws("y:v=7&l=0|v=3?1;y:2", 2, 1);
        draws("y:v=7&(l=0|v=3)?1;y:2", 2, 2);
        draws("y:!v=7?1;y:2", 2, 1);
        draws("y:!!v=7?1;y:2", 1, 2);
        draws("y:!v=7&v=7?1;y:2", 2, 2);
        draws("y:!v=7|v=7?1;y:2", 1, 1);
        draws("y:!(v=7&l=0)?1;y:2", 1, 1);
        draws("y:!(v=7|l=0)?1;y:2", 2, 2);
    }

    /** BOAT 0: v 7, l 4, r 5, d 2, p 1; BOAT 1: v 3, all else 0. */
    private void draws(String law, int one, int other) {
        BuoyVote vote = edges.borough("sw0;bc0a4o0r5;cx1y1v7s1;c");
        edges.rule(vote, law);
        edges.due("pull(0, 0) by " + law, vote.pull(0, 0), one);
        edges.due("pull(0, 1) by " + law, vote.pull(0, 1), other);
    }

    private void sums() {
        edges.sentence("Terms", "SUM: TERMS with + or - between; TERM: ATOMS with * or / between");
        edges.next(1, "y:v", JOINTS + "=<>;");
        edges.next(1, "y:v+", ATOMS);
        edges.next(1, "y:v-", ATOMS);
        edges.next(1, "y:v*", ATOMS);
        edges.next(1, "y:v/", ATOMS);
        edges.next(1, "y:[", ATOMS);
        edges.next(1, "y:[v", JOINTS + "]");
        edges.next(1, "y:[[v]", JOINTS + "]");
        edges.next(1, "y:[v]", JOINTS + "=<>;");
        draws("y:v+l*r", 27, 3);
        draws("y:v*l+r", 33, 0);
        draws("y:v-l-r", -2, 3);
        draws("y:v-[l-r]", 8, 3);
        draws("y:20/3/2", 3, 3);
        draws("y:20/[3/2]", 20, 20);
        draws("y:2*9/4*3", 12, 12);
        edges.sentence("Terms", "ATOM: a number (1 to 4 digits), a letter (v l r d p h), [ SUM ]");
        edges.fault(1, "y:1", NONE);
        edges.fault(1, "y:12", NONE);
        edges.fault(1, "y:123", NONE);
        edges.fault(1, "y:1234", NONE);
        edges.fault(1, "y:12345", 6);
        edges.fault(1, "y:00001", 6);
        edges.fault(1, "y:000001", 6);
        edges.fault(1, "y:[99999]", 7);
        edges.fault(1, "y:v=99999?1", 8);
        edges.fault(1, "y:v=1?99999", 10);
        edges.fault(1, "y:[]", 3);
        edges.fault(1, "y:[1", 4);
        edges.fault(1, "y:1]", 3);
        edges.next(1, "y:1", JOINTS + "=<>;" + DIGITS);
        edges.next(1, "y:123", JOINTS + "=<>;" + DIGITS);
        edges.next(1, "y:1234", JOINTS + "=<>;");
        edges.next(1, "y:0000", JOINTS + "=<>;");
        draws("y:0099", 99, 99);
        draws("y:9999/101", 99, 99);
        draws("y:v", 7, 3);
        draws("y:l", 4, 0);
        draws("y:r", 5, 0);
        draws("y:d", 2, 0);
        draws("y:p", 1, 0);
        draws("y:h", 0, 0);
    }

    /** All ways to have seven of ( [ ! within one another: six are no FAULT, the seventh is. */
    private void depths() {
        edges.sentence("Terms", "At most six of ( [ ! within one another.");
        for (int outer = 0; outer <= 7; outer++) {
            for (int bits = 0; bits < 1 << outer; bits++) {
                StringBuilder seven = new StringBuilder();
                for (int i = 0; i < 7; i++) {
                    seven.append(i >= outer ? '[' : (bits >> i & 1) == 0 ? '!' : '(');
                }
                edges.due("seven: " + seven, faultOf("y:" + seven), 8);
                edges.due("seven behind six: " + seven, faultOf("y:1;" + six(seven) + ";y:" + seven), 13 + six(seven).length());
                edges.fault(1, six(seven), NONE);
            }
        }
        edges.fault(1, "y:v=[[[[[[1]]]]]]?[[[[[[1]]]]]]", NONE);
        edges.fault(1, "y:v=[[[[[[[1]]]]]]]?1", 10);
        edges.fault(1, "y:v=1?[[[[[[[1]]]]]]]", 12);
        edges.fault(1, "y:!!!!!!v=1&!!!!!!v=1|((((((v=1))))))?1", NONE);
        edges.fault(1, "y:!!!!!!v=1&!!!!!!!v=1?1", 18);
        edges.fault(1, "y:(((((v=1&!v=1)))))?1", NONE);
        edges.fault(1, "y:(((((v=1&!!v=1)))))?1", 12);
        edges.fault(1, "y:((((((v=1&[v]=1))))))?1", 12);
        draws("y:[[[[[[v]+1]+1]+1]+1]+1]", 12, 8);
        draws("y:1+[2*[3+[4*[5+[6-[7]]]]]]", 39, 39);
        draws("y:!(!(!(v=7)))?1;y:2", 2, 1);
    }

    private static int faultOf(String law) {
        BuoyVote vote = new BuoyVote();
        Checks.tape(vote, law);
        return vote.fault(1);
    }

    /** A whole LAW with the first six of these signs. */
    private static String six(CharSequence signs) {
        StringBuilder law = new StringBuilder("y:");
        StringBuilder sum = new StringBuilder("v");
        StringBuilder close = new StringBuilder();
        boolean condition = false;
        for (int i = 0; i < 6; i++) {
            law.append(signs.charAt(i));
            if (signs.charAt(i) == '[') {
                sum.append(']');
            } else {
                condition = true;
                close.append(signs.charAt(i) == '(' ? ")" : "");
            }
        }
        return law.append(sum).append(condition ? "=1" : "").append(close).append(condition ? "?1" : "").toString();
    }

    private void bounds() {
        edges.sentence("Terms", "Behind each sign numbers are within -1,000,000 .. 1,000,000");
        // A million is 1000*1000; one less and one more by + and -.
        draws("y:9999*100+99<1000*1000?1;y:2", 1, 1);
        draws("y:9999*100+100=1000*1000?1;y:2", 1, 1);
        draws("y:9999*100+101=1000*1000?1;y:2", 1, 1);
        draws("y:1000*1000+1-1=1000*1000?1;y:2", 2, 2);
        draws("y:1000*1001-1000=1000*1000?1;y:2", 2, 2);
        draws("y:1000*1000-1000=999*1000?1;y:2", 1, 1);
        draws("y:9999*9999-1000*1000=0?1;y:2", 1, 1);
        draws("y:0-1000*1000-1+1+1000*1000=1?1;y:2", 1, 1);
        draws("y:0-999*1000-1000+1000*1000=0?1;y:2", 1, 1);
        draws("y:0-999*1000-1001+1000*1000=0?1;y:2", 1, 1);
        draws("y:[0-9999]*9999+1000*1000=0?1;y:2", 1, 1);
        draws("y:[0-9999]*[0-9999]-1000*1000=0?1;y:2", 1, 1);
        draws("y:1000*1000*[1000*1000]=1000*1000?1;y:2", 1, 1);
        draws("y:9999*9999/9999", 99, 99);
        draws("y:9999*9999/9999-90", 10, 10);

        edges.sentence("Terms", "/ cuts towards 0, by 0 gives 0.");
        draws("y:7/2", 3, 3);
        draws("y:[0-7]/2", -3, -3);
        draws("y:7/[0-2]", -3, -3);
        draws("y:[0-7]/[0-2]", 3, 3);
        draws("y:1/2", 0, 0);
        draws("y:[0-1]/2", 0, 0);
        draws("y:7/0", 0, 0);
        draws("y:[0-7]/0", 0, 0);
        draws("y:0/0", 0, 0);
        draws("y:v/d", 3, 0);
        draws("y:5+7/[v-v]*2", 5, 5);
    }

    private void worths() {
        edges.sentence("Terms", "WORTH of a LAW: the SUM of the first CLAUSE whose CONDITION holds (or has none), 0 "
            + "without.");
        draws("y:v=7?5", 5, 0);
        draws("y:v=1?5;y:v=2?6", 0, 0);
        draws("y:v=1?5;y:6", 6, 6);
        draws("y:5;y:6", 5, 5);
        draws("y:v=7?5;y:v=7?6;y:v=3?7;y:8", 5, 7);
        draws("y:v=3?0;y:9", 9, 0);
    }

    private void plans() {
        edges.sentence("Terms", "STEPS with ; between, 1 to 16");
        edges.fault(2, "", 0);
        edges.fault(2, ";", 0);
        edges.fault(2, ";h1", 0);
        edges.fault(2, "h1;", 3);
        edges.fault(2, "h1;;h1", 3);
        edges.fault(2, "h1h1", 2);
        for (int steps = 1; steps <= 16; steps++) {
            String plan = SIXTEEN.substring(0, 3 * steps - 1);
            edges.fault(2, plan, NONE);
            BuoyVote vote = new BuoyVote();
            edges.plan(vote, plan);
            edges.due("the last STEP of " + steps, vote.step(0, steps - 1, 0), 3);
            edges.due("no STEP behind " + steps, vote.step(0, steps, 0), HIDDEN);
        }
        edges.fault(2, SIXTEEN + ";h1", 47);
        edges.sentence("Terms", "g and three digits (BOAT, x, y: it is to ROW there), s and two digits (BOAT, BUOY: "
            + "it SINGS to it), c and two digits (BOAT, BUOY: it SCRAPES it), h and a digit (HOURS)");
        String[] kinds = {"g", "s", "c", "h"};
        int[] digits = {3, 2, 2, 1};
        for (int kind = 0; kind < 4; kind++) {
            for (int given = 0; given <= 4; given++) {
                String step = kinds[kind] + "0123".substring(0, given);
                int fault = given == digits[kind] ? NONE : Math.min(given, digits[kind]) + 1;
                edges.fault(2, step, fault);
                edges.fault(2, step + ";h1", fault);
                edges.fault(2, "h1;" + step, fault == NONE ? NONE : fault + 3);
                edges.next(2, kinds[kind] + "0123".substring(0, Math.min(given, digits[kind])),
                    given < digits[kind] ? DIGITS : ";");
            }
        }
        edges.next(2, "", "gsch");
        edges.next(2, "h1;", "gsch");
        edges.next(2, SIXTEEN, "");
    }

    private void blanks() {
        edges.sentence("Terms", "Blanks (32) may stand between all signs of these, not within numbers (between digits "
            + "of a STEP they may).");
        String[] texts = {"st12d1h20;bx9y09c3;cv03;c", "y:!(v>1234)&[l]<12|r=0?[d+99]*2;y:0012/p-h", "g012;s01;c12;h5;g999"};
        for (int sort = 0; sort < 3; sort++) {
            String text = texts[sort];
            edges.fault(sort, text, NONE);
            for (int at = 0; at <= text.length(); at++) {
                boolean within = sort < 2 && at > 0 && at < text.length() && isDigit(text.charAt(at - 1))
                    && isDigit(text.charAt(at));
                edges.fault(sort, put(text, at, "  "), within ? at + 2 : NONE);
                edges.fault(sort, put(text, at, "\t"), at);
            }
            edges.fault(sort, put(text, 3, "\n"), 3);
            edges.fault(sort, put(text, 3, "\u00a0"), 3);
        }
        for (int sort = 0; sort < 3; sort++) {
            for (int length : new int[] {1, 2, 240}) {
                edges.fault(sort, " ".repeat(length), length);
            }
        }
    }

    private static boolean isDigit(char sign) {
        return DIGITS.indexOf(sign) >= 0;
    }

    private static String put(String text, int at, String more) {
        return text.substring(0, at) + more + text.substring(at);
    }

    private void faultAtTheEnd() {
        edges.sentence("Terms", "(the length, if it ends too early, without a BUOY, with fewer than two BOATS, or two "
            + "BUOYS in one place)");
        String[] texts = {"st12d1h20;bx9y09c3;cv03;c", "y:!(v>1234)&[l]<12|r=0?[d+99]*2;y:0012/p-h", "g012;s01;c12;h5;g999"};
        for (int sort = 0; sort < 3; sort++) {
            for (int n = 0; n <= texts[sort].length(); n++) {
                edges.due("fault(" + sort + ") of the first " + n + " of " + texts[sort],
                    faultOf(sort, texts[sort].substring(0, n)), isWhole(sort, texts[sort].substring(0, n)) ? NONE : n);
            }
        }
        edges.fault(0, "c;c", 3);
        edges.fault(0, "c;c;s  ", 7);
        edges.fault(0, "s", 1);
        edges.fault(0, "b", 1);
        edges.fault(0, "b;c", 3);
        edges.fault(0, "b;c  ", 5);
        edges.fault(0, "b;b;c;c", 7);
        edges.fault(0, "b;b;c;c  ", 9);
        edges.fault(0, "b;c;c;bx0y00", 12);
        edges.fault(0, "bx9y8;by8x9;c;c", 15);
        edges.fault(0, "bx9y8;by9x8;c;c", NONE);
        edges.fault(0, "bx05y5;c;c;bx5y05", 17);
        edges.fault(0, "b;bx1;bx2;bx3;bx4;bx5;bx6;bx6;c;c", 33);
        edges.fault(0, "b;bx1;bx2;bx3;bx4;bx5;bx6;b;c;c", 31);
        edges.fault(0, "b;bx1;bx2;bx3;bx4;bx5;bx6;bx7;c;c", NONE);
        edges.fault(0, "b;b;c;c;q", 8);
        edges.fault(0, "b;b;c;c;c;c", 10);
        edges.fault(0, "bx1;cx1;cx1", NONE);
    }

    private static int faultOf(int sort, String text) {
        BuoyVote vote = new BuoyVote();
        Checks.tape(vote, text);
        return vote.fault(sort);
    }

    /** Whether a beginning of the texts above is a text by itself, read off by forms that fit these beginnings alone. */
    private static boolean isWhole(int sort, String text) {
        switch (sort) {
            case 0:
                return text.matches("s.*;b.*;cv0[0-9]*;c");
            case 1:
                return text.matches(".*[?](\\[d[+][0-9]+\\]([*]2)?)(;y:[0-9]+(/p(-h)?)?)?");
            default:
                return text.matches("(g...|s..|c..|h.)(;(g...|s..|c..|h.))*");
        }
    }

    private void faultsInside() {
        edges.sentence("Terms", "a number out of bounds is wrong at its last digit");
        edges.fault(0, "sw10;b;c;c", 3);
        edges.fault(0, "st0", 2);
        edges.fault(0, "st00", 3);
        edges.fault(0, "st0;b;c;c", 2);
        edges.fault(0, "b;c;cx 99 y1", 8);
        edges.sentence("Terms", "a third digit (whatever stands ahead of it; a fifth one in a LAW) itself");
        edges.fault(0, "sw100;b;c;c", 4);
        edges.fault(0, "sw990", 4);
        edges.fault(0, "sw0000", 4);
        edges.fault(0, "st000", 4);
        edges.fault(0, "st120", 4);
        edges.fault(0, "sh201;b;c;c", 4);
        edges.fault(0, "cs 123", 5);
        edges.fault(1, "y:12345", 6);
        edges.fault(1, "y:123456789", 6);
        edges.fault(1, "y:00000", 6);
        edges.fault(1, "y: 9999 9", 8);
        edges.fault(1, "y:v*99999", 8);
        edges.sentence("Terms", "a letter that was there, a second s, a ninth b, a fourth c");
        edges.fault(0, "sw1w1", 3);
        edges.fault(0, "bx1y1x1", 5);
        edges.fault(0, "cs1 s1", 4);
        edges.fault(0, "s;s", 2);
        edges.fault(0, "s ; b ; s", 8);
        edges.fault(0, "b;b;b;b;b;b;b;b;b", 16);
        edges.fault(0, "b;b;b;b;b;b;b;b;c;b", 18);
        edges.fault(0, "c;c;c;c", 6);
        edges.fault(0, "c;c;c;b;c", 8);
        edges.sentence("Terms", "the ; ahead of a 17th STEP");
        edges.fault(2, SIXTEEN + ";", 47);
        edges.fault(2, SIXTEEN + ";h1", 47);
        edges.fault(2, SIXTEEN + "  ;h1", 49);
        edges.fault(2, SIXTEEN + "  ", NONE);
        edges.fault(2, SIXTEEN + ";;", 47);
        edges.sentence("Terms", "a seventh of ( [ ! in a LAW at it");
        edges.fault(1, "y:[[[[[[[1", 8);
        edges.fault(1, "y: [ [ [ [ [ [ [ 1", 15);
        edges.fault(1, "y:(((((((", 8);
        edges.fault(1, "y:!!!!!!!", 8);
        edges.fault(1, "y:!(!(!([", 8);
    }

    private void notThere() {
        edges.sentence("Terms", "(A BOAT, a BUOY of a STEP that is not there is no FAULT: the STEP can't be.");
        for (String step : new String[] {"g211", "g911", "s20", "s90", "s02", "s09", "c20", "c90", "c02", "c09"}) {
            edges.fault(2, step, NONE);
            BuoyVote vote = edges.borough("b;bx1;c;c");
            int plan = edges.plan(vote, step + ";h1");
            edges.due("run of " + step, vote.run(plan, 0), 0);
            edges.due("perform of " + step, vote.perform(plan), 0);
            edges.due("count(12)", vote.count(12), 0);
            vote = edges.borough("b;bx1;c;c");
            plan = edges.plan(vote, "h1;" + step);
            edges.due("run of h1;" + step, vote.run(plan, 0), 1);
            edges.due("perform of h1;" + step, vote.perform(plan), 1);
        }
        BuoyVote vote = edges.borough("b;bx1;bx2;c;c;c");
        edges.due("with a third of each", vote.run(edges.plan(vote, "g211;s20;c02"), 0), 2);

        edges.sentence("Terms", "An OLD vote for a BOAT that is not told is none; a LIKING of such a one counts for "
            + "nothing.)");
        vote = edges.borough("bo2r9f9;c;c");
        edges.all("two BOATS", new long[] {vote.buoy(0, 6), vote.buoy(0, 7), vote.buoy(0, 8), vote.pull(0, 0), vote.pull(0, 1),
            vote.pull(0, 2), vote.sways(0, 1), vote.buoys(1), vote.count(7), vote.votes(2)},
            NONE, 9, NONE, 3, 3, HIDDEN, 0, 0, 0, NONE);
        vote = edges.borough("c;c;bo2r9f9;c");
        edges.all("three BOATS", new long[] {vote.buoy(0, 6), vote.buoy(0, 7), vote.buoy(0, 8), vote.pull(0, 2),
            vote.sways(0, 1), vote.buoys(1), vote.count(7), vote.votes(2)}, 2, 9, 2, 21, 18, 1, 1, 1);
    }
}
