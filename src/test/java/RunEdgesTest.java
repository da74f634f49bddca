/** The boundary cases of the promises 21 to 32: THE RUN, what was kept, parts, and counts. */
public final class RunEdgesTest {
    private static final int NONE = Edges.NONE, FULL = Edges.FULL, NOT = Edges.NOT;
    private static final int LOW = Edges.LOW, HIGH = Edges.HIGH, LAST_DAY = Edges.LAST_DAY;
    private static final int ALL_20 = (1 << 20) - 1;
    private static final String KNOWN =
        "As KNOWN on DAY k: there are those that were read on DAY k or ahead, but those GIVEN UP on DAY k or ahead.";

    public static void main(String[] args) {
        told();
        clear();
        heldEnds();
        heldInTime();
        keptDays();
        keptMany();
        part();
        useNumbers();
        useIs();
        lead();
        gaps();
        bare();
        reach();
        wants();
        count();
        countToday();
        Edges.finish(21, 32);
    }

    private static void says(int promise, String words) {
        Edges.says(promise, words);
    }

    private static void due(String call, int got, int want) {
        Edges.due(call, got, want);
    }

    private static void tell(Bench x, int ticks, int in, int out) {
        for (int t = 0; t < ticks; t++) {
            x.told(in, out);
        }
    }

    private static void told() {
        says(21, "IN and OUT are numbers 0 .. 7");
        Edges.tickEdges("told(in, 0)", (x, in) -> x.told(in, 0), 4, 4);
        Edges.tickEdges("told(0, out)", (x, out) -> x.told(0, out), 4, 4);
        says(21, "THE RUN: TICKS of IN and OUT as told, at most 200.");
        Bench x = Edges.with("!x");
        for (int t = 1; t <= 200; t++) {
            due("tick " + t, x.told(7, 6), t);
        }
        due("one beyond", x.told(7, 7), FULL);
        due("and again", x.told(0, 1), FULL);
        due("200 ticks", x.count(3), 200);
        due("the refused ones break nothing", x.held(0), NOT);
        due("clear()", x.clear(), 200);
        for (int t = 1; t <= 200; t++) {
            due("tick " + t + " of another run", x.told(0, 0), t);
        }
        due("one beyond", x.told(0, 0), FULL);
        says(21, "What is refused changes nothing.");
        Edges.refused("told(1, 7)", Edges::fullRun, y -> y.told(1, 7), FULL);
        Edges.refused("told(0, 0)", Edges::fullRun, y -> y.told(0, 0), FULL);
        says(21, "Answers, the first that a call names: NONE (-1)");
        Edges.refused("told(8, 0)", Edges::fullRun, y -> y.told(8, 0), NONE);
        Edges.refused("told(0, -1)", Edges::fullRun, y -> y.told(0, -1), NONE);
    }

    private static void clear() {
        says(22, "THE RUN is empty: how many TICKS it had.");
        for (int ticks : new int[] {0, 1, 199, 200}) {
            Bench x = Edges.with("!x");
            tell(x, ticks, 0, 1);
            due("held", x.held(0), ticks == 0 ? NOT : 0);
            due("clear()", x.clear(), ticks);
            due("ticks", x.count(3), 0);
            due("held", x.held(0), NOT);
            due("clear() again", x.clear(), 0);
            due("the first tick of another run", x.told(0, 0), 1);
            due("held", x.held(0), NOT);
            due("the second", x.told(0, 1), 2);
            due("held", x.held(0), 1);
        }
        Edges.refused("clear() of an empty run", () -> cleared(Edges.desk()), Bench::clear, 0);
        due("a play goes on", cleared(Edges.desk()).tick(0), 3);
    }

    private static Bench cleared(Bench x) {
        x.clear();
        return x;
    }

    private static void heldEnds() {
        says(23, "HELD: the TICK; NOT: it is not BROKEN. NONE.");
        Edges.wantEdges("held", Bench::held, NOT);
        due("an empty run", Edges.with("!1").held(0), NOT);
        says(23, "the first TICK (from 0 on) in which it is BROKEN, if the run begins at the first POSITION.");
        for (int first : new int[] {0, 1, 198, 199}) {
            Bench x = Edges.with("!x", "a>00", "!y");
            tell(x, first, 0, 0);
            x.told(1, 1);
            tell(x, 199 - first, 1, 1);
            due("NEVER, tick " + first, x.held(0), first);
            due("WITHIN, tick " + first, x.held(1), first);
            due("not BROKEN", x.held(2), NOT);
            due("200 ticks", x.count(3), 200);
            due("a want read behind the run", x.read("!a&x"), 3);
            due("is held too", x.held(3), first);
            x.giveUp(0);
            due("given up", x.held(0), first);
        }
        Bench x = Edges.with("1;01", "1>01");
        tell(x, 1, 0, 0);
        due("STATES of the first POSITION are 0", x.held(0), NOT);
        due("one tick to go", x.held(1), NOT);
        tell(x, 1, 0, 0);
        due("BROKEN", x.held(0), 1);
        due("BROKEN", x.held(1), 1);
        x.peace(1);
        due("as read, not as EASED", x.held(0), 1);
        says(23, "(BROKEN once, nothing more is asked.)");
        tell(x, 198, 0, 0);
        due("BROKEN in each tick since", x.held(0), 1);
        due("BROKEN in each tick since", x.held(1), 1);
    }

    private static void heldInTime() {
        says(23, "F must hold in one of the next s TICKS");
        for (int n = 0; n <= 3; n++) {
            for (int at = 0; at <= 5; at++) {
                Bench x = Edges.with("a>x" + n);
                for (int t = 0; t <= 5; t++) {
                    x.told(t == 0 ? 1 : 0, t == at ? 1 : 0);
                }
                due("WITHIN " + n + ", F in tick " + at, x.held(0), at <= n ? NOT : n);
            }
            Bench x = Edges.with("a>x" + n);
            tell(x, n, 1, 0);
            due("WITHIN " + n + ", a run that ends ahead of it", x.held(0), NOT);
        }
        says(23, "(Of several Es that wait for F the first one counts.)");
        Bench x = Edges.with("a>x3");
        tell(x, 3, 1, 0);
        due("three waited", x.held(0), NOT);
        x.told(1, 0);
        due("the fourth is too late", x.held(0), 3);
        says(23, "if STATE is above 0 F must hold now, else it is BROKEN");
        for (int n = 0; n <= 3; n++) {
            for (int miss = 0; miss <= 5; miss++) {
                Bench y = Edges.with("a;x" + n);
                for (int t = 0; t <= 5; t++) {
                    y.told(t == 0 ? 1 : 0, t == miss ? 0 : 1);
                }
                due("FOR " + n + ", no F in tick " + miss, y.held(0), miss >= 1 && miss <= n ? miss : NOT);
            }
        }
    }

    private static void keptDays() {
        says(24, "KEPT as KNOWN on DAY k (0 .. 9999). NONE.");
        Edges.dayEdges("kept", Bench::kept, 0, 3);
        says(24, KNOWN);
        Edges.knownEdges(Bench::kept, 1, 0);
        Edges.knownEdges((x, k) -> {
            x.told(0, 1);
            return x.kept(k);
        }, 0, 0);
    }

    private static void keptMany() {
        says(24, "how many of those there are not BROKEN in THE RUN.");
        due("no wants", new Bench().kept(0), 0);
        Bench x = new Bench();
        for (int w = 0; w < 20; w++) {
            x.read(w % 2 == 0 ? "!x" : "!y");
        }
        due("an empty run breaks none of 20", x.kept(0), 20);
        tell(x, 199, 0, 4);
        due("nor do 199 ticks", x.kept(0), 20);
        x.told(0, 1);
        due("the last one breaks ten", x.kept(0), 10);
        for (int w = 0; w < 20; w++) {
            x.giveUp(w);
        }
        due("all given up", x.kept(0), 0);
        Bench y = Edges.withMany(20, "!1");
        y.told(0, 0);
        due("all BROKEN", y.kept(0), 0);
        y.clear();
        due("an empty run", y.kept(0), 20);
        due("and on the last day", y.kept(LAST_DAY), 20);
    }

    private static void part() {
        says(25, "A PART: its number. FULL.");
        Bench x = new Bench();
        for (int p = 0; p < 20; p++) {
            due("no part " + p + " yet", x.wants(p, 0), NONE);
            due("part " + p, x.part(), p);
            due("is there", x.wants(p, 0), 0);
        }
        says(25, "PARTS 0 .. 19 of what is to be built");
        due("one beyond", x.part(), FULL);
        due("and again", x.part(), FULL);
        due("20 parts", x.count(4), 20);
        due("no part 20", x.wants(20, 0), NONE);
        Edges.refused("part()", Edges::fullParts, Bench::part, FULL);
    }

    private static void useNumbers() {
        says(26, "A PART USES another one of lesser number (1) or not (0): what it did. NONE.");
        Edges.partEdges("use(part, 0, 1)", (x, part) -> x.use(part, 0, 1), 0, 1);
        for (int part = 0; part < 20; part++) {
            Bench x = Edges.withParts(20);
            for (int other = 0; other < 20; other++) {
                due("use(" + part + ", " + other + ", 1)", x.use(part, other, 1), other < part ? 0 : NONE);
                due("use(" + part + ", " + other + ", 0)", x.use(part, other, 0), other < part ? 1 : NONE);
            }
            for (int other : new int[] {-1, 20, 32, -32, LOW, HIGH}) {
                due("use(" + part + ", " + other + ", 1)", x.use(part, other, 1), NONE);
            }
        }
        due("a part that is not there yet", Edges.withParts(3).use(3, 2, 1), NONE);
        due("the last two of three", Edges.withParts(3).use(2, 1, 1), 0);
        Edges.refusedAll("use(3, other, 1)", Edges::desk, (x, other) -> x.use(3, other, 1), NONE, 3, 4, 5, -1, 32, -32, LOW, HIGH);
        Edges.refusedAll("use(part, part, 1)", Edges::desk, (x, part) -> x.use(part, part, 1), NONE, 0, 1, 4, 5, -1, 32, LOW);
        Edges.refused("use(0, 1, 1)", Edges::desk, x -> x.use(0, 1, 1), NONE);
    }

    private static void useIs() {
        says(26, "NONE (-1): there is no such thing, or a number is not as said");
        Edges.refusedAll("use(3, 1, is)", Edges::desk, (x, is) -> x.use(3, 1, is), NONE, -1, 2, 3, LOW, HIGH);
        Edges.refusedAll("use(2, 0, is), where it does", Edges::desk, (x, is) -> x.use(2, 0, is), NONE, -1, 2, 3, LOW, HIGH);
        says(26, "What is refused changes nothing.");
        Bench x = Edges.withParts(3, "!x");
        x.lead(0, 0, 1);
        due("is 2", x.use(1, 0, 2), NONE);
        due("a part by itself", x.use(0, 0, 1), NONE);
        due("a greater one", x.use(0, 1, 1), NONE);
        due("nothing is used", x.reach(0), 1);
        due("use(1, 0, 1)", x.use(1, 0, 1), 0);
        due("so it did", x.use(1, 0, 1), 1);
        due("reach", x.reach(0), 3);
        due("use(1, 0, 0)", x.use(1, 0, 0), 1);
        due("it did not", x.use(1, 0, 0), 0);
        due("reach", x.reach(0), 1);
    }

    private static Bench partAndWants(int wants) {
        Bench x = Edges.withMany(wants, "!x");
        x.part();
        return x;
    }

    private static void lead() {
        says(27, "A WANT is led to a PART (1) or not (0): what it was. NONE.");
        Edges.wantEdges("lead(want, 0, 1)", (x, want) -> x.lead(want, 0, 1), 0, RunEdgesTest::partAndWants);
        Edges.partEdges("lead(0, part, 1)", (x, part) -> x.lead(0, part, 1), 0, 0);
        Edges.refusedAll("lead(0, 1, is)", Edges::desk, (x, is) -> x.lead(0, 1, is), NONE, -1, 2, 3, LOW, HIGH);
        Edges.refusedAll("lead(0, 0, is), where it is", Edges::desk, (x, is) -> x.lead(0, 0, is), NONE, -1, 2, 3, LOW, HIGH);
        due("no part", Edges.with("!x").lead(0, 0, 1), NONE);
        due("no want", Edges.withParts(1).lead(0, 0, 1), NONE);
        Bench x = Edges.withParts(20);
        for (int w = 0; w < 20; w++) {
            x.read("!x");
        }
        for (int at : new int[] {0, 19}) {
            due("not led", x.lead(at, 19 - at, 0), 0);
            due("led", x.lead(at, 19 - at, 1), 0);
            due("led again", x.lead(at, 19 - at, 1), 1);
            due("reach", x.reach(at), 1 << 19 - at);
            due("not the other one", x.reach(19 - at), at == 0 ? 0 : 1 << at);
        }
        x.giveUp(19);
        due("a want given up", x.lead(19, 0, 0), 1);
        due("no more", x.lead(19, 0, 0), 0);
        due("reach", x.reach(19), 0);
    }

    private static void gaps() {
        says(28, "GAPS as KNOWN on DAY k, as bits. NONE.");
        Edges.dayEdges("gaps", Bench::gaps, 0, 8 | 16 | 32);
        says(28, KNOWN);
        Edges.knownEdges((x, k) -> {
            x.lead(0, 0, 0);
            return x.gaps(k);
        }, 1, 0);
        says(28, "GAPS: WANTS that are there as KNOWN on a DAY and led to no PART.");
        Edges.knownEdges(Bench::gaps, 0, 0);
        due("no wants", new Bench().gaps(0), 0);
        Bench x = Edges.withMany(20, "!x");
        due("all 20", x.gaps(0), ALL_20);
        for (int p = 0; p < 20; p++) {
            x.part();
        }
        x.lead(19, 0, 1);
        x.lead(0, 19, 1);
        due("but the first and the last", x.gaps(0), ALL_20 & ~(1 << 19 | 1));
        x.lead(0, 19, 0);
        due("the first again", x.gaps(0), ALL_20 & ~(1 << 19));
        for (int w = 0; w < 20; w++) {
            x.lead(w, w, 1);
        }
        due("none", x.gaps(0), 0);
    }

    private static Bench chain(int parts) {
        Bench x = Edges.withParts(parts, "!x", "!y");
        for (int p = 1; p < parts; p++) {
            x.use(p, p - 1, 1);
        }
        return x;
    }

    private static void bare() {
        says(29, "BARE PARTS as KNOWN on DAY k, as bits. NONE.");
        Edges.dayEdges("bare", Bench::bare, 31, 2 | 8 | 16);
        says(29, KNOWN);
        Edges.knownEdges(Bench::bare, 0, 1);
        says(29, "neither to one that USES it, or USES one that does, and so on.");
        due("no parts", Edges.with("!x").bare(0), 0);
        due("one part, no wants", Edges.withParts(1).bare(0), 1);
        due("all 20", Edges.withParts(20, "!x").bare(0), ALL_20);
        for (int p = 0; p < 20; p++) {
            Bench x = chain(20);
            x.lead(0, p, 1);
            due("led to " + p + " of a chain", x.bare(0), ALL_20 & ~((1 << p + 1) - 1));
            x.giveUp(0);
            due("given up", x.bare(0), ALL_20);
        }
        Bench x = Edges.withParts(20, "!x");
        x.use(19, 0, 1);
        x.lead(0, 19, 1);
        due("the last that uses the first", x.bare(0), ALL_20 & ~(1 << 19 | 1));
        x.use(19, 0, 0);
        due("and no more", x.bare(0), ALL_20 & ~(1 << 19));
    }

    private static void reach() {
        says(30, "REACH of a WANT, as bits. NONE.");
        Edges.wantEdges("reach", Bench::reach, 0);
        says(30, "REACH of a WANT: the PARTS to which it is led, and all that USE these, and so on.");
        due("no parts", Edges.with("!x").reach(0), 0);
        for (int p = 0; p < 20; p++) {
            Bench x = chain(20);
            x.lead(0, p, 1);
            due("led to " + p + " of a chain", x.reach(0), ALL_20 & ~((1 << p) - 1));
            due("the other want", x.reach(1), 0);
            x.giveUp(0);
            due("given up", x.reach(0), ALL_20 & ~((1 << p) - 1));
        }
        Bench x = Edges.withParts(20, "!x");
        for (int p = 0; p < 20; p++) {
            x.lead(0, p, 1);
        }
        due("led to all", x.reach(0), ALL_20);
        Bench y = chain(20);
        y.lead(0, 0, 1);
        y.use(10, 9, 0);
        due("a chain that is cut", y.reach(0), (1 << 10) - 1);
    }

    private static void wants() {
        says(31, "WANTS of a PART as KNOWN on DAY k, as bits. NONE.");
        Edges.partEdges("wants(part, 0)", (x, part) -> x.wants(part, 0), 0, 0);
        Edges.dayEdges("wants(2, k)", (x, k) -> x.wants(2, k), 0, 1 | 4);
        Edges.refused("wants(-1, -1)", Edges::desk, x -> x.wants(-1, -1), NONE);
        Edges.refused("wants(5, 10000)", Edges::desk, x -> x.wants(5, 10000), NONE);
        says(31, KNOWN);
        Edges.knownEdges((x, k) -> x.wants(0, k), 1, 0);
        says(31, "WANTS of a PART: those that are there and have it in their REACH.");
        Bench x = Edges.withParts(20);
        for (int w = 0; w < 20; w++) {
            x.read("!x");
        }
        due("none", x.wants(19, 0), 0);
        for (int p = 1; p < 20; p++) {
            x.use(p, p - 1, 1);
        }
        for (int w = 0; w < 20; w++) {
            x.lead(w, w, 1);
        }
        for (int p = 0; p < 20; p++) {
            due("part " + p + " of a chain", x.wants(p, 0), (1 << p + 1) - 1);
        }
        due("all 20 on the last day", x.wants(19, LAST_DAY), ALL_20);
        x.giveUp(19);
        due("but the one given up", x.wants(19, 0), ALL_20 >> 1);
    }

    private static void count() {
        says(32, "How many: 0 WANTS read, 1 TODAY, 2 there are as KNOWN TODAY, 3 TICKS of THE RUN, 4 PARTS, 5 bytes on THE TAPE. NONE.");
        Edges.refusedAll("count", Edges::desk, Bench::count, NONE, -1, 6, 7, 32, LOW, HIGH);
        int[] row = {6, 6, 5, 3, 5, 3};
        for (int what = 0; what <= 5; what++) {
            due("count(" + what + ")", Edges.desk().count(what), row[what]);
        }
        due("20 wants", Edges.fullWants().count(0), 20);
        due("200 ticks", Edges.fullRun().count(3), 200);
        due("20 parts", Edges.fullParts().count(4), 20);
        due("80 bytes", Edges.fullTape().count(5), 80);
        Bench x = new Bench();
        x.today(LAST_DAY);
        due("the last day", x.count(1), LAST_DAY);
    }

    private static void countToday() {
        says(32, KNOWN);
        Bench x = Edges.withMany(20, "!x");
        due("read today", x.count(2), 20);
        x.today(LAST_DAY);
        due("read long ago", x.count(2), 20);
        for (int w = 0; w < 20; w++) {
            x.giveUp(w);
            due("given up today", x.count(2), 19 - w);
            due("read all the same", x.count(0), 20);
        }
        Bench y = Edges.with("!x", "!y");
        y.giveUp(0);
        due("given up on day 0", y.count(2), 1);
        y.today(1);
        due("the day behind", y.count(2), 1);
        y.giveUp(1);
        due("none", y.count(2), 0);
        y.today(2);
        y.read("!z");
        due("another one", y.count(2), 1);
    }
}
