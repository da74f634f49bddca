/** The boundary cases of the promises 9 to 20: the game of a SET, THE PLAY, quarrels, what follows, and peace. */
public final class GameEdgesTest {
    private static final int NONE = Edges.NONE, NOT = Edges.NOT;
    private static final int LOW = Edges.LOW, HIGH = Edges.HIGH;
    private static final String SET = "A SET of WANTS (told as bits, 1 to 5 of them, all there, whether GIVEN UP or not).";

    private static final String[] TEXTS = {"a>x2", "!x", "b;~y1", "a;y1", "c>z3", "x;~x3", "1>x0", "0>y3"};
    /** The TICK with IN 0 and OUT 0, and the one with IN 7 and OUT 7. */
    private static final String[] ONE_TICK = {"~a&~b&~c&~x&~y&~z", "a&b&c&x&y&z"};
    private static final int[] SETS = {1, 2 | 128, 3, 4 | 8, 1 | 16, 32 | 64, 4 | 16 | 128, 8 | 32, 1 | 4 | 8 | 16, 1 | 16 | 32 | 128};
    private static final Edges.Asked[] QUESTIONS = {Bench::can, Bench::safe, Bench::loses, Bench::world, Bench::quarrel,
        (x, set) -> x.follows(set & 1, set & ~2), Bench::peace, Bench::play};
    private static final int[] PROMISES = {9, 10, 15, 16, 17, 18, 19, 11};
    private static final String[] WORDS = {"1 if the thing CAN obey a SET from the first POSITION, else 0.",
        "How many POSITIONS of a SET are SAFE", "LOSES IN, of the first POSITION of a SET.", "WORLD's IN there.", "QUARREL of a SET, as bits.",
        "1 if a WANT FOLLOWS from a SET", "PEACE: the least price.", "THE PLAY of a SET begins"};

    public static void main(String[] args) {
        can();
        safe();
        play();
        tick();
        tickOuts();
        tickEnds();
        open();
        state();
        stateEnds();
        loses();
        world();
        quarrel();
        followsNumbers();
        followsInTime();
        peaceOfSets();
        peaceByEasing();
        peaceTies();
        made();
        questionsLeaveNoTrace();
        Edges.finish(9, 20);
    }

    private static void says(int promise, String words) {
        Edges.says(promise, words);
    }

    private static void due(String call, int got, int want) {
        Edges.due(call, got, want);
    }

    private static void giveUpAll(Bench x) {
        int wants = x.count(0);
        for (int w = 0; w < wants; w++) {
            x.giveUp(w);
        }
    }

    private static void can() {
        says(9, SET);
        Edges.setEdges("can", Bench::can, 5, 1, 1);
        Bench x = Edges.with("!x", "!~x", "!0", "!0", "!0");
        due("five that quarrel", x.can(31), 0);
        giveUpAll(x);
        due("given up", x.can(31), 0);
        due("given up, without the quarrel", x.can(30), 1);
        says(9, "1 if the thing CAN obey a SET from the first POSITION, else 0.");
        due("though all other POSITIONS of the second are lost", Edges.with("!x", "0>x1").can(3), 1);
        due("n 3, just enough", Edges.with("1>x3", "x;~x3").can(3), 1);
        due("n 2, one too few", Edges.with("1>x2", "x;~x3").can(3), 0);
        due("n 2, just enough", Edges.with("1>x2", "x;~x2").can(3), 1);
        due("n 0: at once", Edges.with("a>x0").can(1), 1);
        due("n 0: at once, but never", Edges.with("a>x0", "!x").can(3), 0);
        due("FOR 0 asks for nothing", Edges.with("1;00").can(1), 1);
        due("FOR 1 asks for one", Edges.with("1;01").can(1), 0);
    }

    private static void safe() {
        says(10, SET);
        Edges.setEdges("safe", Bench::safe, 5, 4, 1024);
        says(10, "How many POSITIONS of a SET are SAFE (of all: four STATES for each WANT).");
        due("none", Edges.with("!a").safe(1), 0);
        due("none of 1024", Edges.with("!a", "!0", "!0", "!0", "!0").safe(31), 0);
        for (int n = 0; n <= 3; n++) {
            due("STATES above n count, WITHIN " + n, Edges.with("a>x" + n).safe(1), 4);
            due("STATES above n count, FOR " + n, Edges.with("a;x" + n).safe(1), 4);
            due("no STATE above 0 is SAFE, WITHIN " + n, Edges.with("0>0" + n).safe(1), 1);
            due("no STATE above 0 is SAFE, FOR " + n, Edges.with("0;0" + n).safe(1), 1);
        }
        due("all of 1024", Edges.with("a>x3", "b>y2", "c>z1", "a;x3", "b;y2").safe(31), 1024);
        due("none, though some are lost later than the first", Edges.with("a>x0", "!x").safe(3), 0);
        due("one of 1024", Edges.with("0>03", "0;03", "0>00", "0;00", "0>01").safe(31), 1);
        due("the highest STATE of one of five", Edges.with("0>03", "0;03", "0>00", "0;00", "0>x1").safe(31), 4);
        due("the highest STATE of another", Edges.with("0;x0", "0;03", "0>00", "0;00", "0>01").safe(31), 4);
        due("x within t, ~x for s: s below t, or t 0", Edges.with("0>x3", "0;~x0").safe(3), 10);
        due("x for s, ~x for t: not both", Edges.with("0;x3", "0;~x3").safe(3), 7);
    }

    private static void play() {
        says(11, SET);
        Edges.setEdges("play", Bench::play, 5, 1, 1);
        says(11, "What is refused changes nothing.");
        Edges.refusedAll("play", Edges::endedPlay, Bench::play, NONE, 0, 8, -1, LOW);
        Edges.refusedAll("play", Edges::noPlay, Bench::play, NONE, 0, 4, -1, LOW);
        says(11, "THE PLAY of a SET begins: 1 if it CAN, else 0.");
        Bench x = Edges.with("!x", "!~x", "a>y3", "b;z3");
        due("what can't be obeyed", x.play(3), 0);
        due("has begun", x.state(0), 0);
        due("and ends with its first tick", x.tick(0), NOT);
        due("behind the end", x.play(4), 1);
        due("a", x.tick(1), 0);
        due("the STATE is 3", x.state(2), 3);
        due("the same SET", x.play(4), 1);
        due("all 0 at first", x.state(2), 0);
        x.tick(1);
        due("another SET", x.play(8), 1);
        due("the old one has gone", x.state(2), NONE);
        due("the new one is at its first", x.state(3), 0);
        x.tick(2);
        giveUpAll(x);
        due("wants given up", x.state(3), 3);
        due("go on", x.tick(0), 4);
        due("a want read meanwhile", x.read("!z"), 4);
        due("is not of it", x.state(4), NONE);
        due("and binds nothing", x.tick(0), 4);
    }

    private static void tick() {
        says(12, "A TICK of THE PLAY with IN: OUT.");
        Edges.tickEdges("tick", Bench::tick, 3, 3);
        says(12, "NONE: also there is no PLAY, or it has ended");
        for (int in = 0; in < 8; in++) {
            int told = in;
            Edges.refused("tick(" + in + ") without a play", Edges::noPlay, x -> x.tick(told), NONE);
            Edges.refused("tick(" + in + ") behind the end", Edges::endedPlay, x -> x.tick(told), NONE);
        }
        due("tick(8) without a play", Edges.noPlay().tick(8), NONE);
        Edges.refused("tick(8) behind the end", Edges::endedPlay, x -> x.tick(8), NONE);
    }

    private static void tickOuts() {
        says(12, "OUT is the least of the OPEN ones");
        for (int out = 0; out < 8; out++) {
            String only = ((out & 1) == 0 ? "!x|" : "!~x|") + ((out & 2) == 0 ? "y|" : "~y|") + ((out & 4) == 0 ? "z" : "~z");
            Bench x = Edges.with(only);
            x.play(1);
            due(only + " leaves one for 0", x.tick(0), out);
            due(only + " leaves one for 7", x.tick(7), out);
        }
        String[] below = {"!0", "!~x&~y&~z", "!~y&~z", "!~y&~z|~z&~x", "!~z", "!~z|~x&~y", "!~z|~y", "!~z|~y|~x"};
        for (int out = 0; out < 8; out++) {
            Bench x = Edges.with(below[out]);
            x.play(1);
            due("the least behind " + below[out], x.tick(0), out);
            due("how many are left", x.open(0), 8 - out);
        }
    }

    private static void tickEnds() {
        says(12, "NOT: there is no OPEN one (it has ended then).");
        for (int in = 0; in < 8; in++) {
            Bench x = Edges.with("!x", "!~x");
            x.play(3);
            due("tick(" + in + ")", x.tick(in), NOT);
            due("it has ended", x.tick(in), NONE);
            due("it has ended", x.open(in), NONE);
            due("it has ended", x.state(0), NONE);
        }
        Bench x = Edges.with("!a");
        due("only a breaks it", x.play(1), 0);
        due("but there is no SAFE POSITION to lead to", x.tick(0), NOT);
        says(12, "Answers, the first that a call names: NONE (-1)");
        for (int bad : new int[] {8, -1, HIGH}) {
            Bench y = Edges.with("!x", "!~x");
            y.play(3);
            due("tick(" + bad + ")", y.tick(bad), NONE);
            due("which does not end it", y.state(0), 0);
            due("but the next one does", y.tick(0), NOT);
        }
    }

    private static void open() {
        says(13, "How many OUTS are OPEN for IN in THE PLAY now.");
        Edges.tickEdges("open", Bench::open, 2, 2);
        Bench all = Edges.with("!0");
        all.play(1);
        Bench none = Edges.with("!1");
        none.play(1);
        for (int in = 0; in < 8; in++) {
            due("all are OPEN for " + in, all.open(in), 8);
            due("none is OPEN for " + in, none.open(in), 0);
        }
        due("asking ends nothing", none.state(0), 0);
        Bench ways = Edges.with("a;11", "b;11", "c;11", "x;11", "y;11");
        ways.play(31);
        for (int in = 0; in < 8; in++) {
            due("32 POSITIONS may be next, all SAFE, for " + in, ways.open(in), 8);
        }
        for (String one : ONE_TICK) {
            Bench apart = Edges.with(one + ";11", "~(" + one + ");11");
            for (int set = 1; set <= 3; set++) {
                apart.play(set);
                due("apart from all others: " + one, outsOpen(apart), outsOpen(all));
            }
        }
        due("the last of them", ways.tick(7), 0);
        due("with STATE 1", ways.state(2), 1);
        due("a tick does", none.tick(0), NOT);
        Bench x = Edges.with("a>x1");
        x.play(1);
        due("a may wait", x.open(1), 8);
        due("asking is no tick", x.state(0), 0);
        x.tick(1);
        due("now it may not", x.open(0), 4);
        says(13, "NONE: likewise.");
        for (int in : new int[] {0, 7, 8}) {
            due("open(" + in + ") without a play", Edges.noPlay().open(in), NONE);
            Edges.refused("open(" + in + ") behind the end", Edges::endedPlay, y -> y.open(in), NONE);
        }
    }

    private static Bench playing(int wants) {
        Bench x = Edges.withMany(wants, "a>x2");
        x.play(wants == 0 ? 0 : 1 | 1 << wants - 1);
        return x;
    }

    private static void state() {
        says(14, "The STATE of a WANT in THE PLAY now.");
        Edges.wantEdges("state", Bench::state, 0, GameEdgesTest::playing);
        says(14, "NONE: it is not of it, or there is none (or it has ended).");
        Edges.refusedAll("state", Edges::desk, Bench::state, NONE, 1, 4, 5);
        for (int w = 1; w < 19; w++) {
            due("state(" + w + ") beside the play", playing(20).state(w), NONE);
        }
        Edges.refusedAll("state without a play", Edges::noPlay, Bench::state, NONE, 0, 1, 2, -1);
        Edges.refusedAll("state behind the end", Edges::endedPlay, Bench::state, NONE, 0, 1, 2, 3, -1);
    }

    private static void stateEnds() {
        says(14, "STATE of a WANT: a number 0 .. 3, 0 at first");
        Bench x = Edges.with("a>x3", "b;y3", "!0", "c>z0", "c;x0");
        x.play(15);
        for (int w = 0; w < 4; w++) {
            due("at first", x.state(w), 0);
        }
        due("a and b", x.tick(3), 0);
        int[][] rows = {{3, 3}, {2, 2}, {1, 1}, {0, 0}, {0, 0}};
        int[] outs = {2, 2, 3, 0};
        for (int t = 0; t < 5; t++) {
            due("WITHIN 3", x.state(0), rows[t][0]);
            due("FOR 3", x.state(1), rows[t][1]);
            due("NEVER", x.state(2), 0);
            due("WITHIN 0", x.state(3), 0);
            if (t < 4) {
                due("tick " + t, x.tick(0), outs[t]);
            }
        }
        Bench y = Edges.with("a>x3", "b;y3", "!0", "c>z0", "c;x0");
        y.play(31);
        y.tick(7);
        int[] states = {3, 3, 0, 0, 0};
        for (int w = 0; w < 5; w++) {
            due("five of them: " + w, y.state(w), states[w]);
        }
    }

    private static void loses() {
        says(15, SET);
        Edges.setEdges("loses", Bench::loses, 5, NOT, NOT);
        says(15, "the least m such that the world can have some WANT BROKEN in at most m TICKS whatever OUT is");
        due("at once", Edges.with("!a").loses(1), 1);
        for (int n = 0; n <= 3; n++) {
            due("WITHIN " + n, Edges.with("1>0" + n).loses(1), n + 1);
            due("FOR " + n, Edges.with("1;0" + n).loses(1), n == 0 ? NOT : 2);
        }
        due("the soonest of five", Edges.with("1>03", "1>02", "1;02", "a>03", "b>01").loses(31), 2);
        due("at once, with four that take longer", Edges.with("1>03", "1>02", "1;02", "a>03", "b>00").loses(31), 1);
        due("five by five, the last of them", Edges.with("!0", "!0", "!0", "!0", "1>03").loses(31), 4);
        due("a long way", Edges.with("z&a&x>~b3", "~a>z|~c3", "y|~x;z2", "c&z>y|~z3", "y&a>x3").loses(31), 16);
        says(15, "NONE; NOT: it is SAFE.");
        due("SAFE", Edges.with("a>x0").loses(1), NOT);
        due("SAFE, though other POSITIONS are not", Edges.with("!x", "0>x1").loses(3), NOT);
    }

    private static void world() {
        says(16, SET);
        Edges.setEdges("world", Bench::world, 5, NOT, NOT);
        says(16, "WORLD's IN there: the least one by which it does so.");
        for (int in = 0; in < 8; in++) {
            String one = ((in & 1) == 0 ? "!~a&" : "!a&") + ((in & 2) == 0 ? "~b&" : "b&") + ((in & 4) == 0 ? "~c" : "c");
            due(one, Edges.with(one).world(1), in);
            due(one + " within 3", Edges.with(one.substring(1) + ">03").world(1), in);
        }
        due("any does", Edges.with("!1").world(1), 0);
        due("any does, in four ticks", Edges.with("1>03").world(1), 0);
        String[] from = {"!1", "!a|b|c", "!b|c", "!c|a&b", "!c", "!c&(a|b)", "!c&b", "!a&b&c"};
        for (int in = 0; in < 8; in++) {
            due("the least of " + from[in], Edges.with(from[in]).world(1), in);
        }
        due("the soonest, not the least", Edges.with("a>01", "!c").world(3), 4);
        due("the least of the soonest", Edges.with("a>01", "!c", "!b").world(7), 2);
        says(16, "NONE; NOT.");
        due("SAFE", Edges.with("a>x0").world(1), NOT);
        due("SAFE, though other POSITIONS are not", Edges.with("!x", "0>x1").world(3), NOT);
    }

    private static void quarrel() {
        says(17, SET);
        Edges.setEdges("quarrel", Bench::quarrel, 5, NOT, NOT);
        says(17, "its least part that CAN not be obeyed from the first POSITION: of fewest WANTS");
        due("one of one", Edges.with("!1").quarrel(1), 1);
        due("the last of five alone", Edges.with("!x", "!~x", "!0", "!0", "!a").quarrel(31), 16);
        due("two ahead of three", Edges.with("!x", "!~x&y", "!~x&~y", "!z", "!~z").quarrel(31), 8 | 16);
        due("all five", Edges.with("!x&y", "!x&~y", "!~x&y", "!~x&~y&z", "!~x&~y&~z").quarrel(31), 31);
        due("four of five", Edges.with("!x&y", "!0", "!x&~y", "!~x&y", "!~x&~y").quarrel(31), 31 - 2);
        due("the last five of 20", lastFive().quarrel(31 << 15), 31 << 15);
        says(17, "of several the first (by its WANTS' numbers in order, the first that differs being less)");
        due("one of two", Edges.with("!0", "!a", "!b").quarrel(7), 2);
        due("0 and 3 ahead of 1 and 2", Edges.with("!x", "!y", "!~y", "!~x").quarrel(15), 9);
        due("0 and 1 ahead of 0 and 2", Edges.with("!x", "!~x", "!~x").quarrel(7), 3);
        due("0, 1, 4 ahead of 0, 2, 3", Edges.with("!x", "!~x&y", "!~x&z", "!~x&~z", "!~x&~y").quarrel(31), 1 | 2 | 16);
        due("0, 1, 2, 4 ahead of 0, 1, 3, 4", Edges.with("!x&y", "!x&~y", "!~x&y", "!~x&y", "!~x&~y").quarrel(31), 1 | 2 | 4 | 16);
        says(17, "NOT if it CAN.");
        due("five that go", Edges.with("!x", "!y", "a>z0", "b;~x3", "c>z3").quarrel(31), NOT);
    }

    private static Bench lastFive() {
        Bench x = Edges.withMany(15, "!0");
        for (String text : new String[] {"!x&y", "!x&~y", "!~x&y", "!~x&~y&z", "!~x&~y&~z"}) {
            x.read(text);
        }
        return x;
    }

    /** A want that the SET does not have. */
    private static int beside(int set) {
        return (set & 1) != 0 ? 5 : 0;
    }

    private static void followsNumbers() {
        says(18, "1 if a WANT FOLLOWS from a SET (of 1 to 4), else 0.");
        Edges.setEdges("follows", (x, set) -> x.follows(beside(set), set), 4, 1, 1);
        due("of no want but the SET's", Edges.with("!x").follows(1, 1), NONE);
        due("want 2 of three", Edges.withMany(3, "!x").follows(2, 1), 1);
        due("want 3 of three", Edges.withMany(3, "!x").follows(3, 1), NONE);
        due("want 0 of 20", Edges.withMany(20, "!x").follows(0, 1 << 19), 1);
        due("want 19 of 20", Edges.withMany(20, "!x").follows(19, 1), 1);
        for (int want : new int[] {20, 31, 32, 51, -1, -13, -32, LOW, LOW + 19, HIGH}) {
            due("want " + want + " of 20", Edges.withMany(20, "!x").follows(want, 2), NONE);
        }
        Edges.refusedAll("follows from 2", Edges::desk, (x, want) -> x.follows(want, 4), NONE, -1, 6, 20, 32, -32, LOW, HIGH);
        Bench x = Edges.with("!x", "!x&y");
        giveUpAll(x);
        due("given up", x.follows(1, 1), 1);
        due("given up, the other way", x.follows(0, 2), 0);
        says(18, "NONE: also the SET has it.");
        Edges.refused("alone", Edges::desk, y -> y.follows(0, 1), NONE);
        Edges.refused("as its last", Edges::desk, y -> y.follows(5, 1 | 2 | 4 | 32), NONE);
        due("want 19", Edges.withMany(20, "!x").follows(19, 15 << 16), NONE);
        due("want 16", Edges.withMany(20, "!x").follows(16, 15 << 16), NONE);
        due("want 15", Edges.withMany(20, "!x").follows(15, 15 << 16), 1);
    }

    private static void followsInTime() {
        says(18, "has w BROKEN in a TICK in which, as in all ahead of it, none of the SET is.");
        due("in the first tick", Edges.with("!0", "1>00").follows(1, 1), 0);
        due("in the fourth tick", Edges.with("!0", "1>03").follows(1, 1), 0);
        due("never", Edges.with("!0", "1;00").follows(1, 1), 1);
        for (int n = 0; n <= 3; n++) {
            due("the SET is BROKEN in the second, w in tick " + (n + 1), Edges.with("1;01", "1>0" + n).follows(1, 1), n == 0 ? 0 : 1);
            due("the SET is BROKEN in the fourth, w in tick " + (n + 1), Edges.with("1>03", "1>0" + n).follows(1, 1), n == 3 ? 1 : 0);
        }
        due("in the same first tick", Edges.with("!a", "!a").follows(1, 1), 1);
        due("in the same tick, or not", Edges.with("!a&x", "!a").follows(1, 1), 0);
        due("by all four", Edges.with("!x&y", "!x&~y", "!~x&y", "!~x&~y", "!1").follows(4, 15), 1);
        due("by three of them", Edges.with("!x&y", "!x&~y", "!~x&y", "!0", "!1").follows(4, 15), 0);
        for (String one : ONE_TICK) {
            due("by one TICK alone: " + one, Edges.with("!0", one + ";01").follows(1, 1), 0);
            due("by no other TICK than " + one, Edges.with("!" + one, one + ";01").follows(1, 1), 1);
            due("not by that one: " + one, Edges.with("!" + one, "~(" + one + ");01").follows(1, 1), 0);
        }
        due("behind 1024 POSITIONS", Edges.with("a;13", "b;13", "x;13", "y;13", "c>z3").follows(4, 15), 0);
        due("in none of 1024 POSITIONS", Edges.with("a;13", "b;13", "x;13", "y;13", "c>13").follows(4, 15), 1);
        due("from the first POSITION on", Edges.with("!x", "0>x3").follows(1, 1), 1);
    }

    private static Bench priced(int[][] prices, String... texts) {
        Bench x = new Bench();
        for (int i = 0; i < texts.length; i++) {
            x.read(texts[i], prices[i][0], prices[i][1]);
        }
        return x;
    }

    private static Bench dear(String... texts) {
        Bench x = new Bench();
        for (String text : texts) {
            x.read(text, 99, 99);
        }
        return x;
    }

    private static void peace(String what, Bench x, int set, int price, int... terms) {
        due(what, x.peace(set), price);
        int term = 0;
        for (int w = 0; w < 20; w++) {
            if ((set >> w & 1) == 1) {
                due(what + ", of " + w, x.made(w), terms[term]);
                term++;
            }
        }
    }

    private static void peaceOfSets() {
        says(19, "PEACE for a SET (of 1 to 4)");
        Edges.setEdges("peace", Bench::peace, 4, 0, 0);
        says(19, "the least price with which what is kept and EASED CAN be obeyed (nothing at all CAN)");
        peace("no price", dear("!x"), 1, 0, 0);
        peace("no price for four", dear("!x", "a>y0", "b;z3", "!0"), 15, 0, 0, 0, 0, 0);
        peace("all is left", dear("!a"), 1, 99, 4);
        peace("all four are left", dear("!a", "!b", "!c", "!1"), 15, 396, 4, 4, 4, 4);
        peace("the least WORTH", priced(new int[][] {{1, 1}}, "!a"), 1, 1, 4);
        peace("the last four of 20", lastFour(), 15 << 16, 99, 4, 0, 0, 0);
        Bench x = dear("!x", "!~x");
        giveUpAll(x);
        peace("given up or not", x, 3, 99, 0, 4);
    }

    private static Bench lastFour() {
        Bench x = Edges.withMany(16, "!1");
        for (String text : new String[] {"!1", "!0", "!x", "!y"}) {
            x.read(text, 99, 99);
        }
        return x;
    }

    private static void peaceByEasing() {
        says(19, "EASED by e (WITHIN: n is e more, 3 at most; FOR: n is e less, 0 at least; price EASE times e; e 1 .. 3; NEVER can't be EASED)");
        for (int n = 0; n <= 3; n++) {
            peace("WITHIN " + n, priced(new int[][] {{99, 1}, {99, 99}}, "1>x" + n, "x;~x3"), 3, 3 - n, 3 - n, 0);
            peace("WITHIN " + n + " for 33 each", priced(new int[][] {{99, 33}, {99, 99}}, "1>x" + n, "x;~x3"), 3, 33 * (3 - n), n == 0 ? 0 : 3 - n, n == 0 ? 4 : 0);
            peace("FOR " + n, priced(new int[][] {{99, 1}}, "1;0" + n), 1, n, n);
            peace("FOR " + n + " for 33 each", priced(new int[][] {{99, 33}}, "1;0" + n), 1, 33 * n, n);
        }
        peace("EASED by 3 costs one more than its WORTH", priced(new int[][] {{98, 33}}, "1;03"), 1, 98, 4);
        peace("no n of 4 or more", priced(new int[][] {{99, 1}}, "1>03"), 1, 99, 4);
        peace("n 4 would do", priced(new int[][] {{99, 1}, {99, 99}, {5, 99}}, "1>x3", "x;y3", "y;~x1"), 7, 5, 0, 0, 4);
        peace("a NEVER with the least EASE", priced(new int[][] {{99, 1}}, "!a"), 1, 99, 4);
        peace("EASED and left at once", priced(new int[][] {{99, 33}, {7, 1}, {99, 2}, {99, 99}}, "1;01", "!a", "1>x0", "x;~x3"), 15, 33 + 7 + 6, 1, 4, 3, 0);
    }

    private static void peaceTies() {
        says(19, "of several the first: by WANTS' numbers, kept ahead of EASED by 1, 2, 3, ahead of left.");
        peace("kept ahead of left", priced(new int[][] {{5, 1}, {5, 1}}, "!x", "!~x"), 3, 5, 0, 4);
        peace("kept ahead of EASED", priced(new int[][] {{99, 2}, {99, 1}}, "a;x1", "b;~x2"), 3, 2, 0, 2);
        peace("EASED by 1 ahead of left", priced(new int[][] {{9, 9}}, "1;01"), 1, 9, 1);
        peace("EASED by 2 ahead of left", priced(new int[][] {{18, 9}}, "1;02"), 1, 18, 2);
        peace("EASED by 3 ahead of left", priced(new int[][] {{99, 33}}, "1;03"), 1, 99, 3);
        peace("by 1 ahead of by 2 and 3", priced(new int[][] {{99, 1}, {99, 1}, {99, 99}}, "1>x0", "x;~x3", "x;~x1"), 7, 3, 1, 2, 0);
        peace("by 2 ahead of by 3", priced(new int[][] {{99, 1}, {99, 1}, {99, 99}}, "1>x0", "x;~x3", "x;~x2"), 7, 3, 2, 1, 0);
        peace("the first number decides", priced(new int[][] {{4, 99}, {3, 99}, {1, 99}}, "!x", "!~x", "!~x&1"), 7, 4, 0, 4, 4);
    }

    private static Bench peaceMade(int wants) {
        Bench x = Edges.withMany(wants, "a>x2");
        x.peace(wants == 0 ? 0 : 1 | 1 << wants - 1);
        return x;
    }

    private static void made() {
        says(20, "What becomes of a WANT by the latest peace(): 0 kept, 1 .. 3 EASED by so much, 4 left.");
        Edges.wantEdges("made", Bench::made, 0, GameEdgesTest::peaceMade);
        Bench x = priced(new int[][] {{99, 1}, {99, 1}, {99, 1}, {1, 99}, {1, 1}}, "1;01", "1;02", "1;03", "1;03", "!x");
        x.peace(15);
        int[] terms = {1, 2, 3, 4};
        for (int w = 0; w < 4; w++) {
            due("made(" + w + ")", x.made(w), terms[w]);
        }
        due("not of it", x.made(4), NONE);
        x.peace(16);
        due("the latest", x.made(4), 0);
        due("the one ahead of it", x.made(0), NONE);
        says(20, "NONE: it was not of it, or before any.");
        Edges.refusedAll("made", Edges::desk, Bench::made, NONE, 0, 1, 3);
        Edges.refusedAll("made before any", Edges::noPlay, Bench::made, NONE, 0, 1, 2, -1);
        for (int w = 1; w < 19; w++) {
            due("made(" + w + ") beside the peace", peaceMade(20).made(w), NONE);
        }
        says(20, "What is refused changes nothing.");
        for (int set : new int[] {0, 31, 32, -1, LOW}) {
            Bench y = Edges.with("!x", "!x", "!x", "!x", "!x");
            due("peace(" + set + ")", y.peace(set), NONE);
            due("made(0), still before any", y.made(0), NONE);
            y.peace(1);
            due("peace(" + set + ") again", y.peace(set), NONE);
            due("made(0), as before", y.made(0), 0);
            due("made(1), as before", y.made(1), NONE);
        }
    }

    private static int outsOpen(Bench x) {
        int many = 0;
        for (int in = 0; in < 8; in++) {
            many = 9 * many + x.open(in) + 1;
        }
        return many;
    }

    /** A question about one SET changes no answer about another one, nor THE PLAY or what peace() made. */
    private static void questionsLeaveNoTrace() {
        for (int q = 0; q < QUESTIONS.length * SETS.length; q++) {
            Edges.Asked asked = QUESTIONS[q / SETS.length];
            int set = SETS[q % SETS.length];
            says(PROMISES[q / SETS.length], WORDS[q / SETS.length]);
            int alone = asked.on(Edges.with(TEXTS), set);
            for (int before = 0; before < QUESTIONS.length * SETS.length; before++) {
                Bench x = Edges.with(TEXTS);
                QUESTIONS[before / SETS.length].on(x, SETS[before % SETS.length]);
                due("question " + q + " behind " + before, asked.on(x, set), alone);
            }
            if (asked != QUESTIONS[7] && asked != QUESTIONS[6]) {
                playAndPeaceStay(asked, set);
            }
        }
    }

    private static void playAndPeaceStay(Edges.Asked asked, int set) {
        Bench x = Edges.with(TEXTS);
        x.play(1 | 16 | 128);
        x.tick(5);
        x.peace(2 | 32 | 64);
        Bench y = Edges.with(TEXTS);
        y.play(1 | 16 | 128);
        y.tick(5);
        y.peace(2 | 32 | 64);
        asked.on(y, set);
        due("OUTS of THE PLAY", outsOpen(y), outsOpen(x));
        due("its next tick", y.tick(0), x.tick(0));
        for (int w = 0; w < TEXTS.length; w++) {
            due("state(" + w + ")", y.state(w), x.state(w));
            due("made(" + w + ")", y.made(w), x.made(w));
        }
    }
}
