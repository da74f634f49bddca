/** One test or more for each promise of the document: ordinary calls, the edges it names, and wrong inputs. */
public final class PromisesTest {
    private static final int NONE = -1, FULL = -2, THERE = -3, NOT = -4;
    private static final int LOW = Integer.MIN_VALUE, HIGH = Integer.MAX_VALUE;

    private static int wrong = 0;
    private static int checked = 0;

    public static void main(String[] args) {
        newObject();
        today();
        feed();
        wantNumbers();
        wantFaults();
        wantDepth();
        giveUp();
        about();
        holds();
        nextNever();
        nextWithin();
        nextFor();
        can();
        safe();
        playAndTick();
        playEnds();
        open();
        state();
        loses();
        world();
        quarrel();
        follows();
        peace();
        peaceTies();
        made();
        told();
        held();
        kept();
        part();
        use();
        lead();
        gaps();
        bare();
        reach();
        wants();
        count();
        sets();
        System.out.println(checked + " answers, " + wrong + " wrong");
        if (wrong != 0) {
            System.exit(1);
        }
    }

    private static void due(int promise, String call, int got, int want) {
        checked++;
        if (got != want) {
            wrong++;
            System.out.println("promise " + promise + ": " + call + " answered " + got + ", due is " + want);
        }
    }

    private static Bench with(String... texts) {
        Bench x = new Bench();
        for (String text : texts) {
            due(4, text, x.read(text) < 0 ? 1 : 0, 0);
        }
        return x;
    }

    private static String times(String text, int many) {
        return text.repeat(many);
    }

    private static void newObject() {
        Bench x = new Bench();
        for (int what = 0; what <= 5; what++) {
            due(1, "count(" + what + ")", x.count(what), 0);
        }
        due(1, "about(0, 0)", x.about(0, 0), NONE);
        due(1, "can(1)", x.can(1), NONE);
        due(1, "tick(0)", x.tick(0), NONE);
        due(1, "open(0)", x.open(0), NONE);
        due(1, "state(0)", x.state(0), NONE);
        due(1, "made(0)", x.made(0), NONE);
        due(1, "held(0)", x.held(0), NONE);
        due(1, "kept(0)", x.kept(0), 0);
        due(1, "gaps(0)", x.gaps(0), 0);
        due(1, "bare(0)", x.bare(0), 0);
        due(1, "wants(0, 0)", x.wants(0, 0), NONE);
        due(1, "clear()", x.clear(), 0);
        due(1, "today(0)", x.today(0), 0);
        due(1, "want of an empty tape", x.want(0, 1, 1), -100);
    }

    private static void today() {
        Bench x = new Bench();
        due(2, "today(5)", x.today(5), 0);
        due(2, "today(5) again", x.today(5), 5);
        due(2, "today(4)", x.today(4), NONE);
        due(2, "today(-1)", x.today(-1), NONE);
        due(2, "today(10000)", x.today(10000), NONE);
        due(2, "today(LOW)", x.today(LOW), NONE);
        due(2, "today(HIGH)", x.today(HIGH), NONE);
        due(2, "refused days change nothing", x.count(1), 5);
        due(2, "today(9999)", x.today(9999), 5);
        due(2, "today(9999) again", x.today(9999), 9999);
    }

    private static void feed() {
        Bench x = new Bench();
        due(3, "feed(0, 0)", x.feed(0, 0), NONE);
        due(3, "feed(5, 0)", x.feed(5, 0), NONE);
        due(3, "feed(-1, 0)", x.feed(-1, 0), NONE);
        due(3, "feed(LOW, 0)", x.feed(LOW, 0), NONE);
        due(3, "nothing came", x.count(5), 0);
        due(3, "the lowest byte first", x.feed(2, '!' | 'x' << 8 | 'q' << 16), 2);
        due(3, "three bytes", x.feed(3, '&' | 'a' << 8 | '|' << 16 | 'q' << 24), 5);
        due(3, "one byte", x.feed(1, 'b' | 0x7FFFFF00), 6);
        due(3, "only n bytes were taken", x.want(0, 1, 1), 0);
        due(3, "x&a", x.holds(0, 0, 1, 1), 1);
        due(3, "a alone", x.holds(0, 0, 1, 0), 0);
        due(3, "all four bytes", x.feed(4, -1), 4);
        due(3, "bytes of 255 are no text", x.want(0, 1, 1), -100);
        for (int i = 1; i <= 19; i++) {
            due(3, "feed(4, 0)", x.feed(4, 0), 4 * i);
        }
        due(3, "79 bytes", x.feed(3, 0), 79);
        due(3, "two more are too many", x.feed(2, 0), FULL);
        due(3, "none of them came", x.count(5), 79);
        due(3, "the 80th", x.feed(1, 0), 80);
        due(3, "the 81st", x.feed(1, 0), FULL);
        due(3, "NONE comes ahead of FULL", x.feed(9, 0), NONE);
    }

    private static void wantNumbers() {
        Bench x = new Bench();
        x.feed("!x");
        int[][] bad = {{-1, 1, 1}, {10, 1, 1}, {0, 0, 1}, {0, 100, 1}, {0, 1, 0}, {0, 1, 100}, {LOW, 1, 1}, {0, HIGH, 1}, {0, 1, LOW}};
        for (int[] b : bad) {
            due(4, "want with a wrong number", x.want(b[0], b[1], b[2]), NONE);
        }
        due(4, "THE TAPE stayed", x.count(5), 2);
        due(4, "want(9, 99, 99)", x.want(9, 99, 99), 0);
        due(4, "THE TAPE is empty", x.count(5), 0);
        for (int i = 1; i < 20; i++) {
            due(4, "want " + i, x.read("!x"), i);
        }
        x.feed("!!");
        due(4, "NONE comes ahead of FULL", x.want(0, 0, 0), NONE);
        due(4, "a want more", x.want(0, 1, 1), FULL);
        due(4, "THE TAPE stays with FULL", x.count(5), 2);
        due(4, "no more wants", x.count(0), 20);
    }

    private static void wantFaults() {
        String[] sound = {"!0", "!1", "!~~a", "a>x0", "a;x3", "1>10", "1;00", "a|b&c>~(x|y)&z2", "((a))>((x))1",
            "!a&b|c&~x|(y)", "!" + times("a|", 39) + "x", "a&" + times("(x)|", 18) + "z>y1"};
        for (String text : sound) {
            due(4, text, new Bench().read(text), 0);
        }
        Object[][] faults = {{"", 0}, {"!", 1}, {"!a>x1", 2}, {"!a1", 2}, {"!!a", 1}, {"!a!", 2}, {"a", 1}, {"a>", 2}, {"a>x", 3},
            {"a>x4", 3}, {"a>x9", 3}, {"a>xx", 3}, {"a>x11", 4}, {"a>x1;", 4}, {"a;x>1", 3}, {"a>x;y1", 3}, {"ab>x1", 1}, {"a b", 1},
            {" a", 0}, {"A>x1", 0}, {"d>x1", 0}, {"w>x1", 0}, {"2>x1", 0}, {"a>21", 2}, {"a>1", 3}, {"a>~1", 4}, {"()", 1}, {"(a", 2},
            {"(a>x1", 2}, {"(a1", 2}, {"(a;", 2}, {"a)", 1}, {"a>x)1", 3}, {"a||b", 2}, {"a&|b", 2}, {"&a", 0}, {"|a", 0}, {">x1", 0}, {";x1", 0},
            {"a&", 2}, {"a|", 2}, {"~", 1}, {"~)", 1}, {"a~b", 1}, {"a(b)", 1}, {"(a)(b)", 3}, {"!a)", 2}, {"!(a))", 4}, {"!(a", 3},
            {"!a\0", 2}, {"a>x1\0", 4}, {"\0", 0}, {"a\0>x1", 1}, {"a>\0", 2}, {"!(\0", 2}, {"!\u00e1", 1},
            {"a>(x1", 4}, {"a>(x", 4}, {"a>x&1", 5}, {"a>x&11", -1}, {"a>x&12", -1}, {"a>x|01", -1}, {"a?x1", 1},
            {"!" + times("a|", 39), 79}, {times("a&", 40), 80}, {times("a", 80), 1}};
        for (Object[] f : faults) {
            int fault = (Integer) f[1];
            due(4, "'" + f[0] + "'", new Bench().read((String) f[0]), fault < 0 ? 0 : -100 - fault);
        }
        Bench x = new Bench();
        due(4, "a fault empties THE TAPE", x.read("a>x1 "), -104);
        due(4, "bytes on THE TAPE", x.count(5), 0);
        due(4, "a fault is no want", x.count(0), 0);
        due(4, "the next text is read anew", x.read("a>x1"), 0);
    }

    private static void wantDepth() {
        Object[][] texts = {
            {"!" + times("~", 10) + "a", -1}, {"!" + times("~", 11) + "a", 11},
            {"!" + times("(", 10) + "a" + times(")", 10), -1}, {"!" + times("(", 11) + "a", 11},
            {"!" + times("~(", 5) + "a" + times(")", 5), -1}, {"!" + times("~(", 5) + "~a" + times(")", 5), 11},
            {"!" + times("(", 9) + "~a&~b" + times(")", 9) + "&~(~(~a))", -1},
            {"!" + times("~a|", 20) + "b", -1},
            {times("~", 10) + "a>" + times("(", 10) + "x" + times(")", 10) + "1", -1},
            {"a>" + times("(", 11) + "x", 12},
            {"!" + times("(", 9) + "~a&(b|(c", 16},
        };
        for (Object[] t : texts) {
            int fault = (Integer) t[1];
            due(4, "'" + t[0] + "'", new Bench().read((String) t[0]), fault < 0 ? 0 : -100 - fault);
        }
    }

    private static void giveUp() {
        Bench x = with("!x", "!y");
        due(5, "giveUp(-1)", x.giveUp(-1), NONE);
        due(5, "giveUp(2)", x.giveUp(2), NONE);
        due(5, "giveUp(HIGH)", x.giveUp(HIGH), NONE);
        Bench y = with("!x");
        due(5, "on day 0", y.giveUp(0), 1);
        due(5, "on day 0 again", y.giveUp(0), THERE);
        x.today(3);
        due(5, "giveUp(0)", x.giveUp(0), 1);
        x.today(4);
        due(5, "giveUp(0) again", x.giveUp(0), THERE);
        due(5, "its day stays", x.about(0, 6), 3);
        due(5, "the other one is there", x.about(1, 6), -1);
        due(5, "a want given up is still of a SET", x.can(1), 1);
        due(5, "and is still held", x.held(0), NOT);
    }

    private static void about() {
        Bench x = new Bench();
        x.today(7);
        x.feed("!~x&a");
        x.want(3, 40, 50);
        x.feed("a>x2");
        x.want(9, 99, 1);
        x.feed("a;(x)3");
        x.want(0, 1, 99);
        int[][] rows = {{0, 0, 3, 40, 50, 7, -1, 0, 5}, {1, 2, 9, 99, 1, 7, -1, 0, 4}, {2, 3, 0, 1, 99, 7, -1, 0, 6}};
        for (int w = 0; w < 3; w++) {
            for (int what = 0; what < 9; what++) {
                due(6, "about(" + w + ", " + what + ")", x.about(w, what), rows[w][what]);
            }
        }
        due(6, "a NEVER behind a FOR 3", x.read("!x"), 3);
        due(6, "has n 0", x.about(3, 1), 0);
        x.part();
        x.part();
        x.part();
        x.use(2, 0, 1);
        x.lead(1, 0, 1);
        x.lead(1, 1, 1);
        due(6, "led to two parts, reaching three", x.about(1, 7), 2);
        x.today(8);
        x.giveUp(2);
        due(6, "given up on day 8", x.about(2, 6), 8);
        due(6, "read on day 7", x.about(2, 5), 7);
        due(6, "about(0, 9)", x.about(0, 9), NONE);
        due(6, "about(0, -1)", x.about(0, -1), NONE);
        due(6, "about(4, 0)", x.about(4, 0), NONE);
        due(6, "about(-1, 0)", x.about(-1, 0), NONE);
        due(6, "about(LOW, HIGH)", x.about(LOW, HIGH), NONE);
    }

    private static Bench withExpressions() {
        return with("!a", "b>c1", "x;y0", "z>a&b|~x&(y|0)1", "!1", "!0");
    }

    private static void holds() {
        for (int in = 0; in < 8; in++) {
            Bench x = withExpressions();
            for (int out = 0; out < 8; out++) {
                String at = "holds with " + in + ", " + out;
                boolean a = (in & 1) != 0;
                boolean b = (in & 2) != 0;
                boolean notX = (out & 1) == 0;
                boolean y = (out & 2) != 0;
                due(7, at, x.holds(0, 0, in, out), in & 1);
                due(7, at, x.holds(1, 0, in, out), in >> 1 & 1);
                due(7, at, x.holds(1, 1, in, out), in >> 2);
                due(7, at, x.holds(2, 0, in, out), out & 1);
                due(7, at, x.holds(2, 1, in, out), out >> 1 & 1);
                due(7, at, x.holds(3, 0, in, out), out >> 2);
                due(7, at, x.holds(3, 1, in, out), a && b || notX && y ? 1 : 0);
                due(7, at, x.holds(4, 0, in, out), 1);
                due(7, at, x.holds(5, 0, in, out), 0);
            }
        }
        Bench x = withExpressions();
        due(7, "a NEVER has no second one", x.holds(0, 1, 0, 0), NONE);
        due(7, "which 2", x.holds(1, 2, 0, 0), NONE);
        due(7, "which -1", x.holds(1, -1, 0, 0), NONE);
        due(7, "in 8", x.holds(1, 0, 8, 0), NONE);
        due(7, "in -1", x.holds(1, 0, -1, 0), NONE);
        due(7, "out 8", x.holds(1, 0, 0, 8), NONE);
        due(7, "out -1", x.holds(1, 0, 0, -1), NONE);
        due(7, "want 6", x.holds(6, 0, 0, 0), NONE);
        due(7, "want -1", x.holds(-1, 0, 0, 0), NONE);
    }

    private static void nextNever() {
        Bench x = with("!a&x");
        for (int s = 0; s < 4; s++) {
            due(8, "a NEVER broken in " + s, x.next(0, s, 8 * 1 + 1), NOT);
            due(8, "a NEVER keeps " + s, x.next(0, s, 8 * 1 + 6), s);
        }
        due(8, "state 4", x.next(0, 4, 0), NONE);
        due(8, "state -1", x.next(0, -1, 0), NONE);
        due(8, "told 64", x.next(0, 0, 64), NONE);
        due(8, "told -1", x.next(0, 0, -1), NONE);
        due(8, "want 1", x.next(1, 0, 0), NONE);
        due(8, "want LOW", x.next(LOW, 0, 0), NONE);
    }

    private static void rows(Bench x, int want, int[][] rows) {
        int[] tolds = {0, 8, 1, 9};
        for (int s = 0; s < 4; s++) {
            for (int t = 0; t < 4; t++) {
                due(8, "next(" + want + ", " + s + ", " + tolds[t] + ")", x.next(want, s, tolds[t]), rows[s][t]);
            }
        }
    }

    /** Columns: neither, E alone, F alone, both. */
    private static void nextWithin() {
        Bench x = with("a>x0", "a>x1", "a>x2", "a>x3");
        for (int n = 0; n < 4; n++) {
            rows(x, n, new int[][] {{0, n == 0 ? NOT : n, 0, 0}, {NOT, NOT, 0, 0}, {1, 1, 0, 0}, {2, 2, 0, 0}});
        }
    }

    private static void nextFor() {
        Bench x = with("a;x0", "a;x1", "a;x2", "a;x3");
        for (int n = 0; n < 4; n++) {
            rows(x, n, new int[][] {{0, n, 0, n}, {NOT, NOT, 0, n}, {NOT, NOT, 1, Math.max(1, n)}, {NOT, NOT, 2, Math.max(2, n)}});
        }
    }

    private static void can() {
        Bench x = with("a>x2", "!x", "a;~y1", "!~y&b", "!a", "!x&~x", "0;0 3".replace(" ", ""));
        due(9, "alone", x.can(1), 1);
        due(9, "never x", x.can(2), 1);
        due(9, "x within 2, and never", x.can(3), 0);
        due(9, "~y for 1", x.can(4), 1);
        due(9, "y with b", x.can(8), 1);
        due(9, "~y for 1 against y with b", x.can(12), 0);
        due(9, "the world may say a", x.can(16), 0);
        due(9, "what is always so", x.can(32), 1);
        due(9, "what never begins", x.can(64), 1);
        due(9, "five of them", x.can(1 | 4 | 32 | 64 | 2), 0);
        due(9, "five that go", with("a>x2", "b>y1", "c;z1", "!x&y", "b;~z0").can(31), 1);
        due(9, "b waits for y, c forbids it again and again", with("b>y3", "c;~y1").can(3), 0);
        due(9, "given up or not", giveUpAndAsk(x), 0);
    }

    private static int giveUpAndAsk(Bench x) {
        x.giveUp(0);
        x.giveUp(1);
        return x.can(3);
    }

    private static void safe() {
        Bench x = with("a>x2", "!x", "a;x1", "!a", "0;x1", "0>x1", "a>0" + "3", "1>~x3");
        due(10, "x whenever it is needed", x.safe(1), 4);
        due(10, "the states of a NEVER count", x.safe(2), 4);
        due(10, "none", x.safe(1 | 2), 0);
        due(10, "FOR alone", x.safe(4), 4);
        due(10, "a NEVER the world breaks", x.safe(8), 0);
        due(10, "states above 0 ask for x", x.safe(2 | 16), 4);
        due(10, "states above 0 wait for x", x.safe(2 | 32), 4);
        due(10, "both", x.safe(2 | 16 | 32), 4);
        due(10, "no F ever", x.safe(64), 0);
        due(10, "16 positions of two wants", x.safe(4 | 16), 16);
        due(10, "x for s ticks, ~x within t: not if t is above 0 and s at least t", x.safe(16 | 128), 16 - 6);
        due(10, "later losses than the first position's", with("a>x0", "!x").safe(3), 0);
        due(10, "all positions of five", with("!0", "!0", "!0", "!0", "0>x1").safe(31), 1024);
    }

    private static void playAndTick() {
        Bench x = with("a>x2", "!x&y", "b;y1");
        due(11, "play(5)", x.play(5), 1);
        due(12, "a: nothing at once", x.tick(1), 0);
        due(14, "x is waited for", x.state(0), 2);
        due(14, "not of THE PLAY", x.state(1), NONE);
        due(12, "b", x.tick(2), 0);
        due(14, "one tick is left", x.state(0), 1);
        due(14, "y must hold", x.state(2), 1);
        due(12, "x and y", x.tick(0), 3);
        due(14, "both done", x.state(0) + x.state(2), 0);
        due(12, "tick(8)", x.tick(8), NONE);
        due(12, "tick(-1)", x.tick(-1), NONE);
        due(11, "play(0)", x.play(0), NONE);
        due(11, "play(8)", x.play(8), NONE);
        due(11, "play(LOW)", x.play(LOW), NONE);
        due(11, "THE PLAY goes on", x.tick(1), 0);
        due(14, "as before", x.state(0), 2);
        due(9, "other calls", x.can(6), 1);
        due(10, "other calls", x.safe(2) > 0 ? 1 : 0, 1);
        due(12, "don't disturb it", x.tick(0), 0);
        due(12, "nor its end", x.tick(0), 1);
        due(11, "a new one begins at the first position", x.play(5), 1);
        x.tick(1);
        x.play(5);
        due(14, "all 0 at first", x.state(0), 0);
        due(12, "more than 200 ticks", manyTicks(x), 300);
    }

    private static int manyTicks(Bench x) {
        int good = 0;
        for (int i = 0; i < 300; i++) {
            good += x.tick(i & 1) >= 0 ? 1 : 0;
        }
        return good;
    }

    private static void playEnds() {
        Bench x = with("a;x1", "b;~x1", "!y");
        due(11, "play of what can't be obeyed", x.play(3), 0);
        due(14, "it has begun all the same", x.state(1), 0);
        due(13, "nothing is OPEN", x.open(0), 0);
        due(13, "which does not end it", x.open(3), 0);
        due(12, "tick(0)", x.tick(0), NOT);
        due(12, "it has ended", x.tick(0), NONE);
        due(13, "it has ended", x.open(0), NONE);
        due(14, "it has ended", x.state(1), NONE);
        due(11, "another one", x.play(4), 1);
        due(12, "goes", x.tick(7), 0);
    }

    private static void open() {
        Bench x = with("a>x1", "!y&~c", "b;z1");
        due(13, "no PLAY", x.open(0), NONE);
        x.play(7);
        due(13, "y is not OPEN without c", x.open(0), 4);
        due(13, "all with c", x.open(4), 8);
        due(13, "all with a, b and c", x.open(7), 8);
        due(13, "open(8)", x.open(8), NONE);
        due(13, "open(-1)", x.open(-1), NONE);
        due(13, "open(LOW)", x.open(LOW), NONE);
        due(12, "a and b", x.tick(3), 0);
        due(13, "x and z now", x.open(0), 1);
        due(13, "and y with c", x.open(4), 2);
        due(12, "so it is", x.tick(0), 5);
        due(13, "what leads to no SAFE POSITION is not OPEN", opensOfTrap(), 4);
        due(13, "all OUTS for all INS", opensOfAllWays(), 64);
    }

    /** Five wants that part the tolds of the first position into 32 places: none of them may get lost. */
    private static int opensOfAllWays() {
        Bench x = with("a;11", "b;11", "c;11", "x;11", "y;11");
        x.play(31);
        int all = 0;
        for (int in = 0; in < 8; in++) {
            all += x.open(in);
        }
        return all;
    }

    /** x binds the thing to both y and ~y in the next tick, so x breaks nothing and is not OPEN all the same. */
    private static int opensOfTrap() {
        Bench x = with("x;y1", "x;~y1");
        x.play(3);
        return x.open(0);
    }

    private static void state() {
        Bench x = with("a>x3", "!x&y", "b;y2", "c;z3");
        due(14, "no PLAY", x.state(0), NONE);
        x.play(2 | 4 | 8);
        due(14, "not of it", x.state(0), NONE);
        due(14, "no such want", x.state(4), NONE);
        due(14, "state(-1)", x.state(-1), NONE);
        due(14, "state(32)", x.state(32), NONE);
        due(14, "state(33)", x.state(33), NONE);
        due(14, "state(LOW)", x.state(LOW), NONE);
        x.tick(6);
        due(14, "NEVER", x.state(1), 0);
        due(14, "FOR 2", x.state(2), 2);
        due(14, "FOR 3", x.state(3), 3);
        due(12, "y and z", x.tick(2), 6);
        due(14, "FOR 2 anew", x.state(2), 2);
        due(14, "FOR 3, one less", x.state(3), 2);
    }

    private static void loses() {
        Bench x = with("a>x2", "!x", "!c", "b;~y1", "a;y1", "!x&~x", "c>z3", "c;~z3", "1;0" + "0");
        due(15, "a, and two ticks more", x.loses(3), 3);
        due(15, "at once", x.loses(4), 1);
        due(15, "the soonest of several", x.loses(7), 1);
        due(15, "a and b, and one more", x.loses(24), 2);
        due(15, "z with the first c, then c and ~z four times", x.loses(64 | 128), 5);
        due(15, "SAFE", x.loses(1), NOT);
        due(15, "SAFE too", x.loses(32 | 256), NOT);
        due(15, "loses(0)", x.loses(0), NONE);
        due(15, "loses(1 << 9)", x.loses(1 << 9), NONE);
        due(15, "loses(-1)", x.loses(-1), NONE);
    }

    private static void world() {
        Bench x = with("a>x2", "!x", "!c", "b;~y1", "a;y1", "!a&b&c", "b>x0");
        due(16, "a", x.world(3), 1);
        due(16, "c", x.world(4), 4);
        due(16, "the soonest, not the least", x.world(7), 4);
        due(16, "a and b", x.world(24), 3);
        due(16, "all of them", x.world(32), 7);
        due(16, "b at once, though a does it too", x.world(2 | 1 | 64), 2);
        due(16, "SAFE", x.world(1), NOT);
        due(16, "whatever it says", with("!x|~x").world(1), 0);
        due(16, "world(0)", x.world(0), NONE);
        due(16, "world(1 << 7)", x.world(1 << 7), NONE);
        due(16, "world(-1)", x.world(-1), NONE);
    }

    private static void quarrel() {
        Bench x = with("a>x0", "!x&y", "a;y1", "!x", "!a", "b>y0", "!y");
        due(17, "two of three", x.quarrel(1 | 2 | 8), 1 | 8);
        due(17, "all three", x.quarrel(1 | 2 | 4), 7);
        due(17, "one alone, though it has the greatest number", x.quarrel(1 | 8 | 16), 16);
        due(17, "the first of two pairs", x.quarrel(1 | 8 | 32 | 64), 1 | 8);
        due(17, "the pair 0, 6 comes ahead of 1, 5", pairs(), 1 | 64);
        due(17, "it CAN", x.quarrel(1 | 2), NOT);
        due(17, "quarrel(0)", x.quarrel(0), NONE);
        due(17, "six wants", x.quarrel(63), NONE);
        due(17, "not there", x.quarrel(1 << 7), NONE);
        due(17, "quarrel(LOW)", x.quarrel(LOW), NONE);
        due(17, "the first of two threes", with("!x|y", "!~x&~y&z", "!~x&~y&~z", "!~x&~y&z&1").quarrel(15), 7);
    }

    private static int pairs() {
        return with("!x", "!y", "!0", "!0", "!0", "!~y", "!~x").quarrel(1 | 2 | 32 | 64);
    }

    private static void follows() {
        Bench x = with("a>x0", "a>x1", "a;x2", "a;x1", "!x", "!x&y", "!1", "0>x0", "b>a0", "b>x0");
        due(18, "later from sooner", x.follows(1, 1), 1);
        due(18, "sooner from later", x.follows(0, 2), 0);
        due(18, "shorter from longer", x.follows(3, 4), 1);
        due(18, "longer from shorter", x.follows(2, 8), 0);
        due(18, "less from more", x.follows(5, 16), 1);
        due(18, "more from less", x.follows(4, 32), 0);
        due(18, "all from what can't be", x.follows(4, 64), 1);
        due(18, "what is never broken", x.follows(7, 16), 1);
        due(18, "by way of a", x.follows(9, 1 | 256), 1);
        due(18, "not by one of them", x.follows(9, 1), 0);
        due(18, "in that same tick", with("!a", "!a&b").follows(1, 1), 1);
        due(18, "one that is broken only later counts", with("a;x1", "!a&~x").follows(1, 1), 0);
        due(18, "behind four ticks, of 1024 positions", with("a;13", "b;13", "x;13", "y;13", "c>z3").follows(4, 15), 0);
        due(18, "in none of 1024 positions", with("a;13", "b;13", "x;13", "y;13", "c>13").follows(4, 15), 1);
        due(18, "the SET has it", x.follows(0, 1), NONE);
        due(18, "five wants", x.follows(0, 2 | 4 | 8 | 16 | 32), NONE);
        due(18, "four wants", x.follows(0, 2 | 4 | 8 | 16), 0);
        due(18, "no SET", x.follows(0, 0), NONE);
        due(18, "no want", x.follows(10, 1), NONE);
        due(18, "want -1", x.follows(-1, 1), NONE);
        due(18, "not there", x.follows(0, 1 << 10), NONE);
    }

    private static void peace() {
        Bench x = new Bench();
        x.read("a;x2", 50, 3);
        x.read("b;~x1", 40, 8);
        x.read("!y", 9, 1);
        x.read("!a", 7, 1);
        x.read("!~y&~y", 5, 1);
        due(19, "no price", x.peace(5), 0);
        due(20, "kept", x.made(0) + x.made(2), 0);
        due(19, "a;x2 by 2 for 6, or b;~x1 by 1 for 8", x.peace(3), 6);
        due(20, "EASED by 2", x.made(0), 2);
        due(20, "kept", x.made(1), 0);
        due(19, "a NEVER can't be EASED", x.peace(8), 7);
        due(20, "left", x.made(3), 4);
        due(19, "the less worth is left", x.peace(4 | 16), 5);
        due(20, "kept", x.made(2), 0);
        due(20, "left", x.made(4), 4);
        due(19, "both at once", x.peace(1 | 2 | 4 | 16), 11);
        due(19, "peace(0)", x.peace(0), NONE);
        due(19, "five wants", x.peace(31), NONE);
        due(19, "not there", x.peace(32), NONE);
        due(19, "peace(-1)", x.peace(-1), NONE);
        Bench y = new Bench();
        y.read("a>x0", 30, 4);
        y.read("a;~x0", 30, 1);
        y.read("!x&a", 30, 1);
        due(19, "by 3 ticks more there is no a-free tick for sure", y.peace(5), 30);
        Bench z = new Bench();
        z.read("x|~x>x0", 30, 4);
        z.read("x;~x2", 30, 40);
        due(19, "x every third tick: two ticks more", z.peace(3), 8);
        due(20, "EASED by 2", z.made(0), 2);
        due(20, "kept", z.made(1), 0);
        due(19, "asking changes no want", z.about(0, 1) + z.can(3), 0);
        Bench u = new Bench();
        u.read("1>x0", 30, 4);
        u.read("x;~x3", 30, 40);
        due(19, "x every fourth tick: three ticks more", u.peace(3), 12);
        due(20, "EASED by 3", u.made(0), 3);
    }

    private static void peaceTies() {
        Bench x = new Bench();
        x.read("!x", 5, 1);
        x.read("!~x", 5, 1);
        due(19, "either is left", x.peace(3), 5);
        due(20, "the first is kept", x.made(0), 0);
        due(20, "the second is left", x.made(1), 4);
        Bench y = new Bench();
        y.read("a;x1", 6, 6);
        y.read("!a&x", 9, 1);
        due(19, "EASED or left for 6", y.peace(3), 6);
        due(20, "EASED comes ahead of left", y.made(0), 1);
        Bench z = new Bench();
        z.read("a;x3", 9, 2);
        z.read("b;~x3", 9, 2);
        due(19, "either by 3", z.peace(3), 6);
        due(20, "the first is kept", z.made(0), 0);
        due(20, "the second is EASED by 3", z.made(1), 3);
    }

    private static void made() {
        Bench x = new Bench();
        x.read("!a", 7, 1);
        x.read("!y", 7, 1);
        due(20, "before any", x.made(0), NONE);
        x.peace(1);
        due(20, "left", x.made(0), 4);
        due(20, "not of it", x.made(1), NONE);
        due(20, "no such want", x.made(2), NONE);
        due(20, "made(-1)", x.made(-1), NONE);
        due(20, "made(32)", x.made(32), NONE);
        x.peace(0);
        due(20, "a refused one changes nothing", x.made(0), 4);
        x.quarrel(3);
        due(20, "nor do other calls", x.made(0), 4);
        x.peace(2);
        due(20, "the latest counts", x.made(0), NONE);
        due(20, "kept", x.made(1), 0);
    }

    private static void told() {
        Bench x = with("!x");
        due(21, "told(8, 0)", x.told(8, 0), NONE);
        due(21, "told(0, 8)", x.told(0, 8), NONE);
        due(21, "told(-1, 0)", x.told(-1, 0), NONE);
        due(21, "told(0, LOW)", x.told(0, LOW), NONE);
        due(21, "told(7, 7)", x.told(7, 7), 1);
        due(22, "clear()", x.clear(), 1);
        for (int i = 1; i < 200; i++) {
            due(21, "told(7, 6)", x.told(7, 6), i);
        }
        due(21, "the 200th", x.told(0, 1), 200);
        due(21, "the 201st", x.told(0, 0), FULL);
        due(21, "NONE comes ahead of FULL", x.told(9, 0), NONE);
        due(23, "the last tick counts", x.held(0), 199);
        due(22, "clear()", x.clear(), 200);
        due(22, "clear() again", x.clear(), 0);
        due(22, "nothing is left", x.count(3), 0);
        due(23, "not BROKEN any more", x.held(0), NOT);
        due(21, "a new run", x.told(0, 0), 1);
    }

    private static void held() {
        Bench x = with("a>x2", "a;x1", "!y&b", "c>z0");
        due(23, "an empty run", x.held(0), NOT);
        x.told(1, 0);
        x.told(1, 1);
        x.told(0, 1);
        due(23, "a>x2 kept", x.held(0), NOT);
        due(23, "a;x1 kept", x.held(1), NOT);
        x.told(1, 0);
        x.told(1, 0);
        due(23, "a;x1 BROKEN", x.held(1), 4);
        due(23, "one tick is left for a>x2", x.held(0), NOT);
        x.told(2, 2);
        due(23, "the first E counts", x.held(0), 5);
        due(23, "!y&b", x.held(2), 5);
        x.told(2, 3);
        due(23, "the first tick counts", x.held(2), 5);
        due(23, "c was not said", x.held(3), NOT);
        x.giveUp(2);
        due(23, "as read, given up or not", x.held(2), 5);
        due(23, "held(4)", x.held(4), NONE);
        due(23, "held(-1)", x.held(-1), NONE);
        due(8, "next() has nothing to do with THE RUN", x.next(0, 0, 8), 2);
    }

    private static void kept() {
        Bench x = with("!x", "!y");
        x.today(3);
        x.read("!z");
        x.today(5);
        x.giveUp(0);
        due(24, "day 0", x.kept(0), 2);
        due(24, "day 2", x.kept(2), 2);
        due(24, "day 3", x.kept(3), 3);
        due(24, "day 4", x.kept(4), 3);
        due(24, "day 5", x.kept(5), 2);
        due(24, "day 9999", x.kept(9999), 2);
        x.told(0, 2);
        due(24, "y BROKEN, day 0", x.kept(0), 1);
        due(24, "y BROKEN, day 5", x.kept(5), 1);
        x.told(0, 1);
        due(24, "x too, day 0", x.kept(0), 0);
        due(24, "x too, day 5", x.kept(5), 1);
        due(24, "kept(-1)", x.kept(-1), NONE);
        due(24, "kept(10000)", x.kept(10000), NONE);
        due(24, "kept(LOW)", x.kept(LOW), NONE);
        Bench y = with("!x");
        y.giveUp(0);
        due(24, "given up on its own day", y.kept(0), 0);
    }

    private static Bench parted(int many, String... texts) {
        Bench x = with(texts);
        for (int i = 0; i < many; i++) {
            due(25, "part()", x.part(), i);
        }
        return x;
    }

    private static void part() {
        Bench x = parted(20);
        due(25, "a part more", x.part(), FULL);
        due(25, "count(4)", x.count(4), 20);
        due(29, "all are BARE", x.bare(0), (1 << 20) - 1);
        due(26, "part 20", x.use(20, 0, 1), NONE);
        due(31, "part 20", x.wants(20, 0), NONE);
    }

    private static void use() {
        Bench x = parted(4, "!x");
        due(26, "use(2, 0, 1)", x.use(2, 0, 1), 0);
        due(26, "again", x.use(2, 0, 1), 1);
        due(26, "no more", x.use(2, 0, 0), 1);
        due(26, "still not", x.use(2, 0, 0), 0);
        due(26, "of itself", x.use(2, 2, 1), NONE);
        due(26, "of a greater number", x.use(1, 2, 1), NONE);
        due(26, "is 2", x.use(2, 1, 2), NONE);
        due(26, "is -1", x.use(2, 1, -1), NONE);
        due(26, "part 4", x.use(4, 1, 1), NONE);
        due(26, "other -1", x.use(2, -1, 1), NONE);
        due(26, "part LOW", x.use(LOW, LOW, 1), NONE);
        x.lead(0, 1, 1);
        due(26, "what was refused changed nothing", x.reach(0), 2);
        x.use(3, 1, 1);
        due(26, "a use counts", x.reach(0), 10);
        x.use(3, 1, 0);
        due(26, "and no more", x.reach(0), 2);
    }

    private static void lead() {
        Bench x = parted(3, "!x", "!y");
        due(27, "lead(0, 2, 1)", x.lead(0, 2, 1), 0);
        due(27, "again", x.lead(0, 2, 1), 1);
        due(27, "another want", x.lead(1, 2, 1), 0);
        due(27, "no more", x.lead(0, 2, 0), 1);
        due(27, "still not", x.lead(0, 2, 0), 0);
        due(27, "the other want is", x.reach(1), 4);
        due(27, "is 2", x.lead(0, 1, 2), NONE);
        due(27, "is -1", x.lead(0, 1, -1), NONE);
        due(27, "want 2", x.lead(2, 1, 1), NONE);
        due(27, "want -1", x.lead(-1, 1, 1), NONE);
        due(27, "part 3", x.lead(0, 3, 1), NONE);
        due(27, "part -1", x.lead(0, -1, 1), NONE);
        due(27, "what was refused changed nothing", x.about(0, 7), 0);
        x.giveUp(0);
        due(27, "a want given up is led all the same", x.lead(0, 0, 1), 0);
        due(27, "so it was", x.lead(0, 0, 1), 1);
    }

    private static void gaps() {
        Bench x = parted(2, "!x", "!y", "!z");
        x.today(2);
        x.read("!a");
        x.lead(1, 0, 1);
        due(28, "day 0", x.gaps(0), 1 | 4);
        due(28, "day 2", x.gaps(2), 1 | 4 | 8);
        x.today(4);
        x.giveUp(2);
        due(28, "day 3", x.gaps(3), 1 | 4 | 8);
        due(28, "day 4", x.gaps(4), 1 | 8);
        x.lead(1, 0, 0);
        due(28, "led no more", x.gaps(4), 1 | 2 | 8);
        due(28, "gaps(-1)", x.gaps(-1), NONE);
        due(28, "gaps(10000)", x.gaps(10000), NONE);
        due(28, "gaps(9999)", x.gaps(9999), 1 | 2 | 8);
    }

    private static void bare() {
        Bench x = parted(6, "!x", "!y");
        x.use(3, 1, 1);
        x.use(1, 0, 1);
        x.use(4, 3, 1);
        due(29, "no want is led", x.bare(0), 63);
        x.lead(0, 3, 1);
        due(29, "3, and 1 and 0 which it uses by and by; not 4 that uses it", x.bare(0), 4 | 16 | 32);
        x.today(3);
        x.giveUp(0);
        due(29, "day 2", x.bare(2), 4 | 16 | 32);
        due(29, "day 3", x.bare(3), 63);
        x.lead(1, 5, 1);
        due(29, "5 alone", x.bare(3), 31);
        due(29, "bare(-1)", x.bare(-1), NONE);
        due(29, "bare(10000)", x.bare(10000), NONE);
    }

    private static void reach() {
        Bench x = parted(6, "!x", "!y");
        x.use(3, 1, 1);
        x.use(1, 0, 1);
        x.use(4, 3, 1);
        due(30, "led to none", x.reach(0), 0);
        x.lead(0, 1, 1);
        due(30, "1, and 3 and 4 that use it by and by; not 0 that it uses", x.reach(0), 2 | 8 | 16);
        x.lead(0, 5, 1);
        due(30, "5 too", x.reach(0), 2 | 8 | 16 | 32);
        due(30, "the other want", x.reach(1), 0);
        x.giveUp(0);
        due(30, "given up or not", x.reach(0), 2 | 8 | 16 | 32);
        due(30, "reach(2)", x.reach(2), NONE);
        due(30, "reach(-1)", x.reach(-1), NONE);
        due(30, "the whole chain", chain(), (1 << 20) - 1);
    }

    private static int chain() {
        Bench x = parted(20, "!x");
        for (int p = 1; p < 20; p++) {
            x.use(p, p - 1, 1);
        }
        x.lead(0, 0, 1);
        return x.reach(0);
    }

    private static void wants() {
        Bench x = parted(4, "!x", "!y", "!z");
        x.use(2, 0, 1);
        x.use(3, 2, 1);
        x.lead(0, 0, 1);
        x.lead(1, 2, 1);
        x.today(6);
        x.giveUp(1);
        x.read("!a");
        x.lead(3, 3, 1);
        due(31, "part 0", x.wants(0, 5), 1);
        due(31, "part 1", x.wants(1, 5), 0);
        due(31, "part 2", x.wants(2, 5), 3);
        due(31, "part 3 on day 5", x.wants(3, 5), 3);
        due(31, "part 3 on day 6", x.wants(3, 6), 1 | 8);
        due(31, "part 4", x.wants(4, 0), NONE);
        due(31, "part -1", x.wants(-1, 0), NONE);
        due(31, "day -1", x.wants(0, -1), NONE);
        due(31, "day 10000", x.wants(0, 10000), NONE);
    }

    private static void count() {
        Bench x = parted(3, "!x", "!y");
        x.today(11);
        x.giveUp(0);
        x.told(0, 0);
        x.told(0, 0);
        x.told(0, 0);
        x.told(0, 0);
        x.feed("abcdef");
        int[] row = {2, 11, 1, 4, 3, 6};
        for (int what = 0; what < 6; what++) {
            due(32, "count(" + what + ")", x.count(what), row[what]);
        }
        due(32, "all are there", with("!x", "!y", "!z").count(2), 3);
        due(32, "count(6)", x.count(6), NONE);
        due(32, "count(-1)", x.count(-1), NONE);
        due(32, "count(LOW)", x.count(LOW), NONE);
    }

    /** What is no SET is none for all calls that take one: no bit, six of them, one not there, the highest bits. */
    private static void sets() {
        Bench x = new Bench();
        for (int i = 0; i < 20; i++) {
            x.read("!x");
        }
        int[] bad = {0, 63, 1 << 20, 1 | 1 << 31, -1, LOW, HIGH};
        for (int set : bad) {
            due(9, "can(" + set + ")", x.can(set), NONE);
            due(10, "safe(" + set + ")", x.safe(set), NONE);
            due(11, "play(" + set + ")", x.play(set), NONE);
            due(15, "loses(" + set + ")", x.loses(set), NONE);
            due(16, "world(" + set + ")", x.world(set), NONE);
            due(17, "quarrel(" + set + ")", x.quarrel(set), NONE);
            due(18, "follows(0, " + set + ")", x.follows(19, set), NONE);
            due(19, "peace(" + set + ")", x.peace(set), NONE);
        }
        for (int want = 20; want < 24; want++) {
            due(5, "giveUp(" + want + ")", x.giveUp(want), NONE);
            due(6, "about(" + want + ", 0)", x.about(want, 0), NONE);
            due(7, "holds(" + want + ", 0, 0, 0)", x.holds(want, 0, 0, 0), NONE);
            due(8, "next(" + want + ", 0, 0)", x.next(want, 0, 0), NONE);
            due(14, "state(" + want + ")", x.state(want), NONE);
            due(18, "follows(" + want + ", 1)", x.follows(want, 1), NONE);
            due(20, "made(" + want + ")", x.made(want), NONE);
            due(23, "held(" + want + ")", x.held(want), NONE);
            due(27, "lead(" + want + ", 0, 1)", x.lead(want, 0, 1), NONE);
            due(30, "reach(" + want + ")", x.reach(want), NONE);
        }
        due(9, "the last want", x.can(1 << 19), 1);
        due(9, "the last five", x.can(31 << 15), 1);
        due(11, "the last five", x.play(31 << 15), 1);
        due(14, "state(19)", x.state(19), 0);
        due(14, "state(14)", x.state(14), NONE);
        due(19, "the last four", x.peace(15 << 16), 0);
        due(20, "made(19)", x.made(19), 0);
        due(20, "made(15)", x.made(15), NONE);
        due(18, "the last from the four ahead of it", x.follows(19, 15 << 15), 1);
    }
}
