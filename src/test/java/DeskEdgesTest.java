/** The boundary cases of the promises 1 to 8: a new object, days, THE TAPE, texts, and single wants. */
public final class DeskEdgesTest {
    private static final int NONE = Edges.NONE, FULL = Edges.FULL, THERE = Edges.THERE, NOT = Edges.NOT;
    private static final int LOW = Edges.LOW, HIGH = Edges.HIGH, LAST_DAY = Edges.LAST_DAY;

    /** What an N may begin with, and the same where ten of ~ and ( are open. */
    private static final String UNIT = "~(01abcxyz", SIGN = "01abcxyz";

    /** Tolds of a>x and a;x. */
    private static final int NEITHER = 0, ONLY_E = 8, ONLY_F = 1, BOTH = 9;

    public static void main(String[] args) {
        newObject();
        memoryOfItsOwn();
        lastCalls();
        today();
        feedNumbers();
        feedOrder();
        feedFull();
        wantNumbers();
        wantFull();
        wantEmptiesTheTape();
        wantGrammar();
        wantEndsTooEarly();
        wantOf80Bytes();
        wantDepth();
        wantN();
        giveUp();
        aboutWhat();
        aboutEnds();
        holds();
        nextNumbers();
        nextNever();
        nextWithin();
        nextFor();
        Edges.finish(1, 8);
    }

    private static void says(int promise, String words) {
        Edges.says(promise, words);
    }

    private static void due(String call, int got, int want) {
        Edges.due(call, got, want);
    }

    private static void newObject() {
        says(1, "DAY 0, no wants, no parts, an empty run.");
        for (int what = 0; what <= 5; what++) {
            due("count(" + what + ")", new Bench().count(what), 0);
        }
        due("today(0)", new Bench().today(0), 0);
        due("today(9999)", new Bench().today(LAST_DAY), 0);
        due("the first part", new Bench().part(), 0);
        due("the first tick", new Bench().told(0, 0), 1);
        due("clear()", new Bench().clear(), 0);
        due("the first byte", new Bench().feed(1, 'a'), 1);
        due("the first want", new Bench().read("!x"), 0);
        due("an empty tape", new Bench().want(0, 1, 1), -100);
        for (int k : new int[] {0, LAST_DAY}) {
            due("kept", new Bench().kept(k), 0);
            due("gaps", new Bench().gaps(k), 0);
            due("bare", new Bench().bare(k), 0);
        }
        noWantNoPart(new Bench());
        Bench x = Edges.with("!x");
        due("a want of day 0", x.about(0, 5), 0);
        due("no play", x.tick(0), NONE);
        due("no play", x.open(0), NONE);
        due("no play", x.state(0), NONE);
        due("no peace", x.made(0), NONE);
        due("an empty run breaks none", x.held(0), NOT);
    }

    private static void noWantNoPart(Bench x) {
        due("giveUp(0)", x.giveUp(0), NONE);
        due("about(0, 0)", x.about(0, 0), NONE);
        due("holds(0, 0, 0, 0)", x.holds(0, 0, 0, 0), NONE);
        due("next(0, 0, 0)", x.next(0, 0, 0), NONE);
        due("can(1)", x.can(1), NONE);
        due("safe(1)", x.safe(1), NONE);
        due("play(1)", x.play(1), NONE);
        due("tick(0)", x.tick(0), NONE);
        due("open(0)", x.open(0), NONE);
        due("state(0)", x.state(0), NONE);
        due("loses(1)", x.loses(1), NONE);
        due("world(1)", x.world(1), NONE);
        due("quarrel(1)", x.quarrel(1), NONE);
        due("follows(0, 2)", x.follows(0, 2), NONE);
        due("peace(1)", x.peace(1), NONE);
        due("made(0)", x.made(0), NONE);
        due("held(0)", x.held(0), NONE);
        due("use(1, 0, 1)", x.use(1, 0, 1), NONE);
        due("lead(0, 0, 1)", x.lead(0, 0, 1), NONE);
        due("reach(0)", x.reach(0), NONE);
        due("wants(0, 0)", x.wants(0, 0), NONE);
    }

    private static void memoryOfItsOwn() {
        says(1, "All memory is the class's own.");
        Bench before = new Bench();
        Edges.fullWants();
        Edges.fullParts();
        Bench after = new Bench();
        for (Bench x : new Bench[] {before, after}) {
            for (int what = 0; what <= 5; what++) {
                due("count(" + what + ")", x.count(what), 0);
            }
            noWantNoPart(x);
        }
        Bench one = Edges.with("a>x3", "b;y3");
        Bench other = Edges.with("a>x3", "b;y3");
        due("two plays", one.play(3) + other.play(3), 2);
        one.tick(1);
        other.tick(2);
        due("state of the one", one.state(0), 3);
        due("state of the one", one.state(1), 0);
        due("state of the other", other.state(0), 0);
        due("state of the other", other.state(1), 3);
        one.told(1, 0);
        other.told(2, 0);
        one.told(0, 0);
        other.told(0, 0);
        due("the run of the one", one.held(1), NOT);
        due("the run of the other", other.held(1), 1);
        due("peace of the one", one.peace(1), 0);
        due("peace of the other", other.peace(2), 0);
        due("made by the one", one.made(1), NONE);
        due("made by the other", other.made(1), 0);
        one.feed("!x");
        other.feed("a>y0");
        due("the tape of the one", one.want(1, 2, 3), 2);
        due("the tape of the other", other.want(4, 5, 6), 2);
        due("the want of the one", one.about(2, 3), 2);
        due("the want of the other", other.about(2, 3), 5);
    }

    private static void lastCalls() {
        says(1, "An object is used for at most 512 calls after it has been made");
        Bench x = new Bench();
        for (int d = 1; d < 512; d++) {
            due("today(" + d + ")", x.today(d), d - 1);
        }
        due("the 512th call", x.count(1), 511);
        Bench dear = Edges.with("a;x3", "b;~x3", "c;x&y3", "a|b;~y3");
        int answer = dear.peace(15);
        while (dear.left() > 0) {
            due("the dearest call, " + dear.left() + " ahead of the last", dear.peace(15), answer);
        }
    }

    private static void today() {
        says(2, "TODAY becomes d (that or later; at most 9999): what it was.");
        Bench x = new Bench();
        due("day 0 again", x.today(0), 0);
        due("one later", x.today(1), 0);
        due("that same day", x.today(1), 1);
        due("one before", x.today(0), NONE);
        due("the last day but one", x.today(LAST_DAY - 1), 1);
        due("beyond the last", x.today(LAST_DAY + 1), NONE);
        due("the last day", x.today(LAST_DAY), LAST_DAY - 1);
        due("the last day again", x.today(LAST_DAY), LAST_DAY);
        due("the day before", x.today(LAST_DAY - 1), NONE);
        due("day 0", x.today(0), NONE);
        due("beyond it", x.today(LAST_DAY + 1), NONE);
        due("still the last", x.count(1), LAST_DAY);
        due("from 0 to the last", new Bench().today(LAST_DAY), 0);
        says(2, "What is refused changes nothing.");
        Edges.refusedAll("today", Edges::desk, Bench::today, NONE, -1, 0, Edges.DESK_DAY - 1, LAST_DAY + 1, LOW, HIGH);
        Edges.refusedAll("today", Bench::new, Bench::today, NONE, -1, LAST_DAY + 1, LOW, HIGH);
    }

    private static void feedNumbers() {
        says(3, "n (1 .. 4) bytes come to THE TAPE");
        for (int n = 1; n <= 4; n++) {
            due("feed(" + n + ", -1)", new Bench().feed(n, -1), n);
        }
        Edges.refusedAll("feed of n bytes", Edges::desk, (x, n) -> x.feed(n, 'x'), NONE, 0, 5, -1, -4, 8, 32, LOW, LOW + 1, HIGH);
        says(3, "how many it has.");
        Bench x = new Bench();
        due("one", x.feed(1, 0), 1);
        due("two more", x.feed(2, 0), 3);
        due("three more", x.feed(3, 0), 6);
        due("four more", x.feed(4, 0), 10);
    }

    private static void feedOrder() {
        says(3, "the lowest of v first");
        Bench x = new Bench();
        x.feed(1, '!');
        x.feed(2, 'x' | '&' << 8);
        x.feed(3, 'a' | '|' << 8 | 'y' << 16);
        x.feed(4, '&' | 'b' << 8 | '|' << 16 | 'z' << 24);
        due("!x&a|y&b|z", x.want(0, 1, 1), 0);
        due("a, x", x.holds(0, 0, 1, 1), 1);
        due("b, x", x.holds(0, 0, 2, 1), 0);
        due("b, y", x.holds(0, 0, 2, 2), 1);
        due("z", x.holds(0, 0, 0, 4), 1);
        Bench high = new Bench();
        high.feed(4, '!' | 'a' << 8 | '&' << 16 | 0xE1 << 24);
        due("a highest byte above 127", high.want(0, 1, 1), -103);
        high.feed(4, 0xE1 | '!' << 8 | 'a' << 16);
        due("a lowest byte above 127", high.want(0, 1, 1), -100);
        high.feed(4, 'a' | '>' << 8 | 'x' << 16 | '3' << 24);
        due("a>x3", high.want(0, 1, 1), 0);
        due("its n", high.about(0, 1), 3);
    }

    private static void feedFull() {
        says(3, "(THE TAPE, at most 80 bytes)");
        for (int n = 1; n <= 4; n++) {
            for (int had = 80 - n - 1; had <= 80; had++) {
                Bench x = new Bench();
                x.feed(".".repeat(had));
                boolean fits = had + n <= 80;
                due(n + " bytes behind " + had, x.feed(n, 0), fits ? had + n : FULL);
                due("bytes there", x.count(5), fits ? had + n : had);
            }
        }
        says(3, "What is refused changes nothing.");
        Edges.refusedAll("feed at 80", Edges::fullTape, (x, n) -> x.feed(n, 'q'), FULL, 1, 2, 3, 4);
        Edges.refusedAll("feed at 78", DeskEdgesTest::tapeOf78, (x, n) -> x.feed(n, 'q'), FULL, 3, 4);
        Bench x = tapeOf78();
        due("3 refused", x.feed(3, '|' | 'x' << 8 | '2' << 16), FULL);
        due("2 taken", x.feed(2, 'x' | '2' << 8), 80);
        due("the text has no byte of the refused ones", x.want(0, 1, 1), Edges.DESK_WANTS);
        due("and its own n", x.about(Edges.DESK_WANTS, 1), 2);
        due("and all 80", x.about(Edges.DESK_WANTS, 8), 80);
        due("THE TAPE takes again", x.feed(4, 0), 4);
        says(3, "Answers, the first that a call names: NONE (-1)");
        Edges.refusedAll("feed at 80", Edges::fullTape, (y, n) -> y.feed(n, 'q'), NONE, 0, 5, -1);
    }

    private static Bench tapeOf78() {
        Bench x = Edges.desk();
        x.feed("|x".repeat(37) + "|");
        return x;
    }

    private static void wantNumbers() {
        says(4, "Each has an OWNER (0 .. 9), a WORTH (1 .. 99), an EASE (1 .. 99");
        int[][] taken = {{0, 1, 1}, {9, 1, 1}, {0, 99, 1}, {0, 1, 99}, {9, 99, 99}};
        for (int[] t : taken) {
            Bench x = new Bench();
            x.feed("!x");
            due("want(" + t[0] + ", " + t[1] + ", " + t[2] + ")", x.want(t[0], t[1], t[2]), 0);
            due("its OWNER", x.about(0, 2), t[0]);
            due("its WORTH", x.about(0, 3), t[1]);
            due("its EASE", x.about(0, 4), t[2]);
        }
        Edges.refusedAll("want of an OWNER", DeskEdgesTest::textReady, (x, n) -> x.want(n, 1, 1), NONE, -1, 10, LOW, HIGH);
        Edges.refusedAll("want with a WORTH", DeskEdgesTest::textReady, (x, n) -> x.want(0, n, 1), NONE, 0, 100, -1, LOW, HIGH);
        Edges.refusedAll("want with an EASE", DeskEdgesTest::textReady, (x, n) -> x.want(0, 1, n), NONE, 0, 100, -1, LOW, HIGH);
        Edges.refused("want(10, 1, 1) of an empty tape", Bench::new, x -> x.want(10, 1, 1), NONE);
        Edges.refused("want(10, 1, 1) of a faulty text", Edges::desk, x -> x.want(10, 1, 1), NONE);
    }

    private static Bench textReady() {
        Bench x = Edges.desk();
        x.feed("&y2");
        return x;
    }

    private static void wantFull() {
        says(4, "A WANT (0 .. 19, as they were read)");
        Bench x = new Bench();
        for (int i = 0; i < 20; i++) {
            due("want " + i, x.read("!x"), i);
        }
        due("a want more", x.read("!y"), FULL);
        due("20 wants", x.count(0), 20);
        due("no want 20", x.about(20, 0), NONE);
        says(4, "NONE, FULL (THE TAPE stays).");
        due("bytes on THE TAPE", x.count(5), 2);
        due("and FULL again", x.want(0, 1, 1), FULL);
        due("bytes on THE TAPE", x.count(5), 2);
        due("to which more may come", x.feed(1, 'x'), 3);
        Edges.refused("want(0, 1, 1) of a text that ends too early", Edges::fullWants, y -> y.want(0, 1, 1), FULL);
        Edges.refused("want(0, 1, 1)", DeskEdgesTest::fullWithText, y -> y.want(0, 1, 1), FULL);
        Edges.refused("want(9, 99, 99)", DeskEdgesTest::fullWithText, y -> y.want(9, 99, 99), FULL);
        says(4, "Answers, the first that a call names: NONE (-1)");
        Edges.refused("want(10, 1, 1)", DeskEdgesTest::fullWithText, y -> y.want(10, 1, 1), NONE);
        Edges.refused("want(0, 0, 1)", DeskEdgesTest::fullWithText, y -> y.want(0, 0, 1), NONE);
        Edges.refused("want(0, 1, 100)", DeskEdgesTest::fullWithText, y -> y.want(0, 1, 100), NONE);
    }

    private static Bench fullWithText() {
        Bench x = Edges.fullWants();
        x.feed("2");
        return x;
    }

    private static void wantEmptiesTheTape() {
        says(4, "and is empty then: its number; -100 less its FAULT.");
        Bench x = new Bench();
        due("a sound text", x.read("a>x1"), 0);
        due("bytes on THE TAPE", x.count(5), 0);
        due("nothing is left to read", x.want(0, 1, 1), -100);
        due("a fault", x.read("a>x1;"), -104);
        due("bytes on THE TAPE", x.count(5), 0);
        due("no want", x.count(0), 1);
        due("no want", x.about(1, 0), NONE);
        due("the next number", x.read("!y"), 1);
        due("its own bytes alone", x.about(1, 8), 2);
        due("a fault behind 19 wants", nineteen().read("!!"), -101);
        Bench y = nineteen();
        y.read("!!");
        due("takes no number", y.read("!x"), 19);
        due("the 20th stands", y.about(19, 8), 2);
        due("one beyond", y.read("!x"), FULL);
    }

    private static Bench nineteen() {
        return Edges.withMany(19, "!x");
    }

    /** A text begun, the bytes it may go on with, and those of them that make it whole. */
    private static void row(String begun, String goOn, String whole) {
        for (int c = 0; c < 256; c++) {
            String text = begun + (char) c;
            int place = begun.length();
            int want = whole.indexOf(c) >= 0 ? 0 : goOn.indexOf(c) >= 0 ? -100 - place - 1 : -100 - place;
            due("'" + text + "'", new Bench().read(text), want);
        }
        due("'" + begun + "' and two bytes", new Bench().read(begun + "\0a"), -100 - begun.length());
    }

    private static void wantGrammar() {
        says(4, "FAULT: the place (from 0) of the first byte with which no TEXT goes on");
        row("", "!" + UNIT, "");
        row("!", UNIT, SIGN);
        row("a", "&|>;", "");
        for (String text : new String[] {"!a", "!~a", "!(a)", "!a&b", "!0", "!1|~(x|y)"}) {
            row(text, "&|", "");
        }
        for (String text : new String[] {"!a&", "!a|", "!~", "!~~"}) {
            row(text, UNIT, SIGN);
        }
        for (String text : new String[] {"a&", "a|", "~", "(", "!(", "!~(", "a>", "a;", "a>x&", "a;x|", "a>(", "a;~", "(a|b)&", "!(a&"}) {
            row(text, UNIT, "");
        }
        row("!(a", "&|)", ")");
        row("!((a", "&|)", "");
        for (String text : new String[] {"(a", "a>(x", "a;~(x", "(a|b", "(a&~b", "((a)", "!((a)|~b"}) {
            row(text, "&|)", text.startsWith("!((a)") ? ")" : "");
        }
        for (String text : new String[] {"(a)", "~a", "a|b&c", "0", "1", "(a)|~(b)"}) {
            row(text, "&|>;", "");
        }
        for (String text : new String[] {"a>x", "a;x", "a>0", "a;1", "a>(x)", "a;~x", "a|b>x&y"}) {
            row(text, "&|0123", "0123");
        }
        says(4, "No blanks.");
        for (String text : new String[] {"a>x0", "a;x3", "1>00", "1;13"}) {
            row(text, "", "");
        }
        String spaced = "a|~(b)>x&y2";
        for (int i = 0; i <= spaced.length(); i++) {
            String text = spaced.substring(0, i) + " " + spaced.substring(i);
            due("'" + text + "'", new Bench().read(text), -100 - i);
        }
    }

    private static void wantEndsTooEarly() {
        says(4, "the length, if it ends too early.");
        String[] wholes = {"!a", "!~(a|b)&c", "a|~(b)>x&~y2", "((a))&~~b;(x|(y))0", "1>01"};
        for (String whole : wholes) {
            for (int i = 0; i < whole.length(); i++) {
                String text = whole.substring(0, i);
                boolean wholeToo = text.equals("!~(a|b)");
                due("'" + text + "'", new Bench().read(text), wholeToo ? 0 : -100 - i);
            }
            due("'" + whole + "'", new Bench().read(whole), 0);
        }
    }

    private static void wantOf80Bytes() {
        says(4, "(THE TAPE, at most 80 bytes)");
        String never = "!" + "a|".repeat(39) + "x";
        String within = "a|".repeat(38) + "b>x3";
        String longFor = "a;" + "x&".repeat(38) + "y0";
        for (String text : new String[] {never, within, longFor}) {
            Bench x = new Bench();
            due("bytes", x.feed(text), 80);
            due("one more", x.feed(1, 'x'), FULL);
            due("'" + text + "'", x.want(0, 1, 1), 0);
            due("80 bytes", x.about(0, 8), 80);
            due("THE TAPE is empty", x.count(5), 0);
        }
        due("a fault in the last of 80", new Bench().read("!" + "a|".repeat(39) + "|"), -179);
        due("no n in the last of 80", new Bench().read("a|".repeat(38) + "b>x4"), -179);
        due("a fault in the first of 80", new Bench().read("2" + "a|".repeat(39) + "a"), -100);
        due("80 bytes that end too early", new Bench().read("a&".repeat(40)), -180);
        due("80 bytes without an n", new Bench().read("a|".repeat(38) + "b>~x"), -180);
        due("79 bytes that end too early", new Bench().read("!" + "a|".repeat(39)), -179);
        Bench x = new Bench();
        x.read(never);
        due("a short text behind a long one", x.read("!"), -101);
        due("and one that is whole", x.read("!a"), 1);
        due("of two bytes", x.about(1, 8), 2);
    }

    private static void wantDepth() {
        says(4, "At most 10 of ~ and ( are open within one another.");
        row("!" + "~".repeat(9), UNIT, SIGN);
        row("!" + "~".repeat(10), SIGN, SIGN);
        row("!" + "(".repeat(9), UNIT, "");
        row("!" + "(".repeat(10), SIGN, "");
        row("!" + "~(".repeat(5), SIGN, "");
        row("!" + "(~".repeat(5), SIGN, "");
        row("(".repeat(10), SIGN, "");
        row("~".repeat(10), SIGN, "");
        row("a>" + "(".repeat(10), SIGN, "");
        row("a;" + "~".repeat(10), SIGN, "");
        row("~".repeat(10) + "a>" + "(".repeat(9), UNIT, "");
        row("!" + "~".repeat(10) + "a&", UNIT, SIGN);
        row("!" + "~".repeat(10) + "a|" + "~".repeat(10), SIGN, SIGN);
        row("!" + "(".repeat(10) + "a", "&|)", "");
        row("!" + "(".repeat(10) + "a&", SIGN, "");
        row("!" + "(".repeat(10) + "a|b)&", UNIT, "");
        row("!" + "(".repeat(10) + "a)|(", SIGN, "");
        row("!" + "~(".repeat(5) + "a|", SIGN, "");
        row("!" + "~(".repeat(5) + "a)&", UNIT, "");
        row("!" + "~(".repeat(5) + "a)&~", UNIT, "");
        row("!" + "~(".repeat(5) + "a)&~~", SIGN, "");
        row("!" + "(".repeat(10) + "a" + ")".repeat(9), "&|)", ")");
        Bench x = new Bench();
        due("ten denials", x.read("!" + "~".repeat(10) + "a"), 0);
        due("are none", x.holds(0, 0, 1, 0), 1);
        due("nine denials", x.read("!" + "~".repeat(9) + "a"), 1);
        due("are one", x.holds(1, 0, 1, 0), 0);
        due("ten brackets", x.read("!" + "(".repeat(10) + "a" + ")".repeat(10)), 2);
        due("change nothing", x.holds(2, 0, 1, 0), 1);
    }

    private static void wantN() {
        says(4, "n is a digit 0 .. 3.");
        for (char sort : new char[] {'>', ';'}) {
            for (int n = 0; n <= 3; n++) {
                Bench x = Edges.with("a" + sort + "x" + n);
                due("its n", x.about(0, 1), n);
                due("its sort", x.about(0, 0), sort == '>' ? 1 : 2);
            }
            for (char c : new char[] {'/', '4', '9', ':', '-'}) {
                due("a" + sort + "x" + c, new Bench().read("a" + sort + "x" + c), -103);
            }
            due("a second digit", new Bench().read("a" + sort + "x03"), -104);
            due("1 and 0 may be Es ahead of an n", new Bench().read("0" + sort + "10"), 0);
            due("2 is no E", new Bench().read("2" + sort + "x1"), -100);
            due("2 is no E", new Bench().read("a" + sort + "21"), -102);
        }
    }

    private static void giveUp() {
        says(5, "A WANT is GIVEN UP TODAY: 1.");
        Edges.wantEdges("giveUp", Bench::giveUp, 1);
        for (int day : new int[] {0, 1, LAST_DAY}) {
            Bench x = Edges.with("!x", "!y");
            x.today(day);
            due("on day " + day, x.giveUp(1), 1);
            due("so it was", x.about(1, 6), day);
            due("the other one is there", x.about(0, 6), -1);
        }
        says(5, "NONE, THERE: it was.");
        Bench x = Edges.with("!x", "!y");
        x.giveUp(0);
        due("on the same day, 0", x.giveUp(0), THERE);
        x.today(LAST_DAY);
        due("on the last day", x.giveUp(0), THERE);
        due("the first day stays", x.about(0, 6), 0);
        Edges.refused("giveUp(1), which was", Edges::desk, y -> y.giveUp(1), THERE);
        Edges.refused("giveUp(6) of six", Edges::desk, y -> y.giveUp(6), NONE);
        for (int w = 0; w < 20; w++) {
            Bench all = Edges.withMany(20, "!x");
            due("giveUp(" + w + ")", all.giveUp(w), 1);
            due("no other one", all.count(2), 19);
        }
    }

    private static void aboutWhat() {
        says(6, "Of a WANT: 0 its sort (0 NEVER, 1 WITHIN, 2 FOR)");
        Edges.wantEdges("about", (x, want) -> x.about(want, 0), 1);
        Bench x = Edges.with("!x", "a>x0", "a;x0");
        for (int w = 0; w < 3; w++) {
            due("about(" + w + ", 0)", x.about(w, 0), w);
        }
        says(6, "8 how many bytes its TEXT had. NONE.");
        Edges.refusedAll("about(0, what)", Edges::desk, (y, what) -> y.about(0, what), NONE, -1, 9, 10, 32, LOW, HIGH);
        Edges.refused("about(-1, 9)", Edges::desk, y -> y.about(-1, 9), NONE);
        due("the shortest text", Edges.with("!a").about(0, 8), 2);
        due("the longest text", Edges.with("!" + "a|".repeat(39) + "a").about(0, 8), 80);
    }

    private static void aboutEnds() {
        says(6, "1 n (0 of NEVER)");
        Bench x = Edges.with("a;x3", "!x", "a>x0", "a>x3", "a;x0");
        int[] n = {3, 0, 0, 3, 0};
        for (int w = 0; w < 5; w++) {
            due("n of " + w, x.about(w, 1), n[w]);
        }
        says(6, "5 its DAY");
        Bench days = Edges.with("!x");
        days.today(LAST_DAY);
        days.read("!y");
        due("read on day 0", days.about(0, 5), 0);
        due("read on the last day", days.about(1, 5), LAST_DAY);
        says(6, "6 the DAY when it was GIVEN UP (-1)");
        due("not given up", days.about(1, 6), -1);
        days.giveUp(1);
        due("given up on the last day", days.about(1, 6), LAST_DAY);
        Bench first = Edges.with("!x");
        first.giveUp(0);
        due("given up on day 0", first.about(0, 6), 0);
        says(6, "7 how many PARTS it is led to");
        Bench led = Edges.withParts(20, "!x", "!y");
        due("none", led.about(0, 7), 0);
        for (int p = 0; p < 20; p++) {
            led.lead(0, p, 1);
            led.lead(0, p, 1);
            due("led to " + (p + 1), led.about(0, 7), p + 1);
        }
        due("the other one", led.about(1, 7), 0);
        led.lead(0, 19, 0);
        due("one less", led.about(0, 7), 19);
        Bench using = Edges.withParts(20, "!x");
        for (int p = 1; p < 20; p++) {
            using.use(p, 0, 1);
        }
        using.lead(0, 0, 1);
        due("those that use it don't count", using.about(0, 7), 1);
    }

    private static void holds() {
        says(7, "1 if the first (which 0) or second (1) E of a WANT holds with IN and OUT, else 0.");
        Edges.wantEdges("holds", (x, want) -> x.holds(want, 0, 7, 0), 1);
        due("which 0", Edges.desk().holds(2, 0, 2, 0), 1);
        due("which 1", Edges.desk().holds(2, 1, 2, 0), 0);
        Edges.refusedAll("holds(0, which, 0, 0)", Edges::desk, (x, which) -> x.holds(0, which, 0, 0), NONE, -1, 2, 3, LOW, HIGH);
        says(7, "IN and OUT are numbers 0 .. 7 (a, x: 1; b, y: 2; c, z: 4).");
        Edges.tickEdges("holds(0, 0, in, 0)", (x, in) -> x.holds(0, 0, in, 0), 0, 1);
        Edges.tickEdges("holds(0, 1, 0, out)", (x, out) -> x.holds(0, 1, 0, out), 0, 1);
        String letters = "abcxyz";
        for (int i = 0; i < 6; i++) {
            Bench x = Edges.with("!" + letters.charAt(i), "!~" + letters.charAt(i));
            for (int told = 0; told < 64; told++) {
                int is = (i < 3 ? told >> 3 + i : told >> i - 3) & 1;
                due(letters.charAt(i) + " with " + told, x.holds(0, 0, told >> 3, told & 7), is);
                due("~" + letters.charAt(i) + " with " + told, x.holds(1, 0, told >> 3, told & 7), 1 - is);
            }
        }
        says(7, "NONE: also a NEVER has no second one.");
        due("its first", Edges.desk().holds(1, 0, 7, 7), 1);
        Edges.refused("its second", Edges::desk, x -> x.holds(1, 1, 7, 7), NONE);
        Edges.refused("of one behind a FOR", Edges::desk, x -> x.holds(4, 1, 0, 0), NONE);
    }

    private static void nextNumbers() {
        says(8, "The STATE behind a TICK with IN and OUT from a STATE (0 .. 3); NOT: BROKEN. NONE.");
        Edges.wantEdges("next", (x, want) -> x.next(want, 3, 0), 2);
        for (int w = 0; w < 3; w++) {
            int want = w;
            Edges.refusedAll("next of want " + w + " from", Edges::desk, (x, state) -> x.next(want, state, 0), NONE, -1, 4, 5, 32, LOW, HIGH);
        }
        says(8, "told: 8 times IN, and OUT.");
        due("told 0", Edges.desk().next(0, 0, 0), 0);
        due("told 63", Edges.desk().next(0, 0, 63), 0);
        due("told 62: IN 7, OUT 6", Edges.desk().next(0, 0, 62), 2);
        due("told 7: IN 0, OUT 7", Edges.desk().next(1, 0, 7), NOT);
        due("told 8: IN 1, OUT 0", Edges.desk().next(0, 0, 8), 2);
        Edges.refusedAll("next(0, 0, told)", Edges::desk, (x, told) -> x.next(0, 0, told), NONE, -1, 64, 65, 72, -64, LOW, HIGH);
        Edges.refused("a BROKEN one", Edges::desk, x -> x.next(0, 1, 8), NOT);
    }

    private static void nextNever() {
        says(8, "NEVER: BROKEN if E holds. (STATE stays as it is.)");
        Bench x = Edges.with("!a", "!0", "!1");
        for (int s = 0; s <= 3; s++) {
            due("E holds, STATE " + s, x.next(0, s, 8), NOT);
            due("E does not, STATE " + s, x.next(0, s, 7), s);
            due("never E, STATE " + s, x.next(1, s, 63), s);
            due("always E, STATE " + s, x.next(2, s, 0), NOT);
        }
    }

    private static void nextWithin() {
        Bench x = Edges.with("a>x0", "a>x1", "a>x2", "a>x3");
        for (int n = 0; n <= 3; n++) {
            says(8, "if F holds now: STATE becomes 0.");
            for (int s = 0; s <= 3; s++) {
                due("F, STATE " + s, x.next(n, s, ONLY_F), 0);
                due("both, STATE " + s, x.next(n, s, BOTH), 0);
            }
            says(8, "with STATE 1 it is BROKEN; with a STATE above 1 it becomes 1 less");
            for (int told : new int[] {NEITHER, ONLY_E}) {
                due("STATE 1", x.next(n, 1, told), NOT);
                due("STATE 2", x.next(n, 2, told), 1);
                due("STATE 3", x.next(n, 3, told), 2);
            }
            says(8, "with STATE 0 and E not holding it stays 0; with STATE 0 and E holding: BROKEN if n is 0, else it becomes n.");
            due("neither, n " + n, x.next(n, 0, NEITHER), 0);
            due("E alone, n " + n, x.next(n, 0, ONLY_E), n == 0 ? NOT : n);
        }
    }

    private static void nextFor() {
        Bench x = Edges.with("a;x0", "a;x1", "a;x2", "a;x3");
        for (int n = 0; n <= 3; n++) {
            says(8, "FOR: if STATE is above 0 F must hold now, else it is BROKEN; STATE is 1 less then.");
            due("STATE 0, neither", x.next(n, 0, NEITHER), 0);
            for (int s = 1; s <= 3; s++) {
                due("neither, STATE " + s, x.next(n, s, NEITHER), NOT);
                due("E alone, STATE " + s, x.next(n, s, ONLY_E), NOT);
                due("F alone, STATE " + s, x.next(n, s, ONLY_F), s - 1);
            }
            says(8, "Then, if E holds now: STATE becomes n if that is more.");
            due("E alone, STATE 0", x.next(n, 0, ONLY_E), n);
            due("both, STATE 0", x.next(n, 0, BOTH), n);
            for (int s = 1; s <= 3; s++) {
                due("both, n " + n + ", STATE " + s, x.next(n, s, BOTH), n > s - 1 ? n : s - 1);
            }
        }
    }
}
