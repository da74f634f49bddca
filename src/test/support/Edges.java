import java.io.IOException;
import java.nio.file.Files;
import java.nio.file.Path;
import java.util.ArrayList;
import java.util.Arrays;
import java.util.List;
import java.util.Map;
import java.util.Set;
import java.util.TreeSet;

/**
 * What the tests of boundary cases share. Each test says which words of the document it is about; a call that is
 * refused is held against a twin of the desk that was never asked.
 */
final class Edges {
    static final int NONE = -1, FULL = -2, THERE = -3, NOT = -4;
    static final int LOW = Integer.MIN_VALUE, HIGH = Integer.MAX_VALUE;
    static final int LAST_DAY = 9999;
    static final int DESK_WANTS = 6, DESK_PARTS = 5, DESK_DAY = 6;

    private static final Map<String, Integer> REFUSALS = Map.of("NONE", NONE, "FULL", FULL, "THERE", THERE, "NOT", NOT);

    private static final Set<String> answered = new TreeSet<>();
    private static final Set<String> sentences = new TreeSet<>();
    private static int promise;
    private static String words = "";
    private static int checked;
    private static int wrong;

    interface Call {
        int on(Bench x);
    }

    /** A call with one number left open. */
    interface Asked {
        int on(Bench x, int number);
    }

    interface Desk {
        Bench make();
    }

    private Edges() {
    }

    /** The next answers are due by these words, of the promise itself or of the terms it is told in. */
    static void says(int number, String quoted) {
        promise = number;
        words = quoted;
        sentences.add(number + " " + quoted);
        if (!section(number).contains(quoted) && !terms().contains(quoted)) {
            miss("the document does not say so");
        }
    }

    static void due(String call, int got, int want) {
        checked++;
        answered.add(promise + " " + want);
        if (got != want) {
            miss(call + " answered " + got + ", due is " + want);
        }
    }

    private static void miss(String what) {
        wrong++;
        System.out.println("promise " + promise + " ('" + words + "'): " + what);
    }

    /** The call answers so, and all later calls answer as if it had not been made. */
    static void refused(String call, Desk desk, Call refused, int answer) {
        Bench asked = desk.make();
        due(call, refused.on(asked), answer);
        List<String> got = later(asked);
        List<String> want = later(desk.make());
        for (int i = 0; i < want.size(); i++) {
            if (i >= got.size() || !got.get(i).equals(want.get(i))) {
                miss("behind " + call + " came " + (i < got.size() ? got.get(i) : "nothing") + ", due is " + want.get(i));
                return;
            }
        }
        checked += want.size();
    }

    static void refusedAll(String call, Desk desk, Asked refused, int answer, int... numbers) {
        for (int number : numbers) {
            refused(call + " with " + number, desk, x -> refused.on(x, number), answer);
        }
    }

    /** Each promise has a sentence here, and each word of refusal that it names was due at least once. */
    static void finish(int first, int last) {
        for (promise = first; promise <= last; promise++) {
            words = "all of it";
            int number = promise;
            if (sentences.stream().noneMatch(s -> s.startsWith(number + " "))) {
                miss("no sentence is tested");
            }
            for (Map.Entry<String, Integer> refusal : REFUSALS.entrySet()) {
                boolean named = section(number).matches(".*\\b" + refusal.getKey() + "\\b.*");
                if (named && !answered.contains(number + " " + refusal.getValue())) {
                    miss(refusal.getKey() + " is never due");
                }
            }
        }
        System.out.println(sentences.size() + " sentences, " + checked + " answers, " + wrong + " wrong");
        if (wrong != 0) {
            System.exit(1);
        }
    }

    private static String document() {
        try {
            return Files.readString(Path.of("../shared/DOC.md")).replace("&gt;", ">").replace("&amp;", "&")
                .replaceAll("```\\w*", " ").replaceAll("\\s+", " ");
        } catch (IOException e) {
            throw new IllegalStateException("../shared/DOC.md is not there", e);
        }
    }

    private static String between(String from, String to) {
        String all = document();
        int begin = all.indexOf(from);
        int end = all.indexOf(to, begin + 1);
        return begin < 0 || end < 0 ? "" : all.substring(begin, end);
    }

    private static String terms() {
        return between("## What it is", "## The public face") + between("## Terms", "## Promise 1:");
    }

    private static String section(int number) {
        return between("## Promise " + number + ":", number == 32 ? "## Not promised" : "## Promise " + (number + 1) + ":");
    }

    static Bench with(String... texts) {
        Bench x = new Bench();
        for (String text : texts) {
            int want = x.read(text);
            if (want < 0) {
                miss("the text " + text + " answered " + want);
            }
        }
        return x;
    }

    static Bench withMany(int wants, String text) {
        Bench x = new Bench();
        for (int i = 0; i < wants; i++) {
            x.read(text);
        }
        return x;
    }

    static Bench withParts(int parts, String... texts) {
        Bench x = with(texts);
        for (int i = 0; i < parts; i++) {
            x.part();
        }
        return x;
    }

    /** Something of everything: wants of three days, one given up, parts, a run, a play and a peace, a text begun. */
    static Bench desk() {
        Bench x = new Bench();
        x.today(2);
        x.feed("a>x2");
        x.want(1, 10, 3);
        x.feed("!x&y");
        x.want(2, 20, 4);
        x.feed("b;y1");
        x.want(3, 30, 5);
        x.today(4);
        x.feed("c>z3");
        x.want(4, 40, 6);
        x.feed("!a");
        x.want(5, 50, 7);
        x.giveUp(1);
        x.today(DESK_DAY);
        x.feed("b;~y3");
        x.want(6, 7, 1);
        for (int p = 0; p < DESK_PARTS; p++) {
            x.part();
        }
        x.use(2, 0, 1);
        x.use(3, 2, 1);
        x.use(4, 1, 1);
        x.lead(0, 0, 1);
        x.lead(2, 2, 1);
        x.lead(1, 4, 1);
        x.told(1, 0);
        x.told(2, 1);
        x.told(4, 2);
        x.play(1 | 4 | 8);
        x.tick(1);
        x.tick(6);
        x.peace(4 | 16 | 32);
        x.feed("a;x");
        return x;
    }

    static Bench fullTape() {
        Bench x = desk();
        x.feed("|x".repeat(38) + "1");
        return x;
    }

    static Bench fullWants() {
        Bench x = desk();
        x.feed("1");
        x.want(0, 1, 1);
        for (int w = DESK_WANTS + 1; w < 20; w++) {
            x.read("!x&y");
        }
        x.feed("a;x");
        return x;
    }

    static Bench fullRun() {
        Bench x = desk();
        for (int t = 3; t < 200; t++) {
            x.told(0, 2);
        }
        return x;
    }

    static Bench fullParts() {
        Bench x = desk();
        for (int p = DESK_PARTS; p < 20; p++) {
            x.part();
        }
        x.use(19, 2, 1);
        return x;
    }

    /** Nothing but wants and an ended play. */
    static Bench endedPlay() {
        Bench x = with("!x", "!~x", "a>y2");
        x.play(1 | 2 | 4);
        x.tick(0);
        return x;
    }

    static Bench noPlay() {
        Bench x = with("!x", "a>y2");
        x.part();
        x.told(1, 1);
        return x;
    }

    /** The answers of a long row of calls: first those that change nothing, then those that do. */
    static List<String> later(Bench x) {
        List<String> rows = new ArrayList<>();
        int wants = counts(x, rows);
        for (int w = 0; w < wants; w++) {
            for (int what = wants > 8 ? 6 : 0; what <= (wants > 8 ? 7 : 8); what++) {
                row(rows, "about", x.about(w, what), w, what);
            }
            row(rows, "state", x.state(w), w);
            row(rows, "made", x.made(w), w);
            row(rows, "held", x.held(w), w);
            row(rows, "reach", x.reach(w), w);
        }
        games(x, rows);
        days(x, rows);
        doings(x, rows);
        return rows;
    }

    private static void row(List<String> rows, String call, int answer, int... args) {
        rows.add(call + Arrays.toString(args) + " = " + answer);
    }

    private static int counts(Bench x, List<String> rows) {
        for (int what = 0; what <= 5; what++) {
            row(rows, "count", x.count(what), what);
        }
        return x.count(0);
    }

    private static void games(Bench x, List<String> rows) {
        for (int in = 0; in < 8; in++) {
            row(rows, "open", x.open(in), in);
        }
        for (int set : new int[] {1 | 2 | 4, 4 | 32}) {
            row(rows, "can", x.can(set), set);
            row(rows, "safe", x.safe(set), set);
            row(rows, "loses", x.loses(set), set);
            row(rows, "world", x.world(set), set);
            row(rows, "quarrel", x.quarrel(set), set);
            row(rows, "follows", x.follows(3, set), 3, set);
        }
        row(rows, "holds", x.holds(0, 1, 1, 1), 0, 1, 1, 1);
        row(rows, "next", x.next(0, 2, 8), 0, 2, 8);
    }

    private static void days(Bench x, List<String> rows) {
        for (int k : new int[] {0, 2, 4, 5, 6, LAST_DAY}) {
            row(rows, "kept", x.kept(k), k);
            row(rows, "gaps", x.gaps(k), k);
            row(rows, "bare", x.bare(k), k);
        }
        int parts = x.count(4);
        for (int p = 0; p < parts; p++) {
            row(rows, "wants", x.wants(p, DESK_DAY), p, DESK_DAY);
        }
    }

    private static void doings(Bench x, List<String> rows) {
        for (int in : new int[] {0, 2, 4, 7}) {
            row(rows, "tick", x.tick(in), in);
            row(rows, "state", x.state(0), 0);
            row(rows, "state", x.state(2), 2);
        }
        row(rows, "feed", x.feed(1, '1'), 1, '1');
        row(rows, "want", x.want(0, 1, 1), 0, 1, 1);
        int last = x.count(0) - 1;
        for (int what = 0; what <= 8; what++) {
            row(rows, "about", x.about(last, what), last, what);
        }
        row(rows, "told", x.told(1, 0), 1, 0);
        row(rows, "held", x.held(last), last);
        row(rows, "clear", x.clear());
        row(rows, "part", x.part());
        row(rows, "use", x.use(2, 1, 1), 2, 1, 1);
        row(rows, "use", x.use(2, 0, 0), 2, 0, 0);
        row(rows, "lead", x.lead(0, 1, 1), 0, 1, 1);
        row(rows, "lead", x.lead(0, 0, 0), 0, 0, 0);
        row(rows, "reach", x.reach(0), 0);
        row(rows, "peace", x.peace(1 | 2), 1 | 2);
        row(rows, "made", x.made(0), 0);
        row(rows, "giveUp", x.giveUp(0), 0);
        row(rows, "giveUp", x.giveUp(1), 1);
        row(rows, "today", x.today(DESK_DAY + 1), DESK_DAY + 1);
        counts(x, rows);
    }

    /** Calls that take a WANT, by its number; taken is the answer for one that is there. */
    static void wantEdges(String call, Asked asked, int taken) {
        wantEdges(call, asked, taken, wants -> withMany(wants, "a>x2"));
    }

    interface Wanted {
        Bench of(int wants);
    }

    static void wantEdges(String call, Asked asked, int taken, Wanted desk) {
        due(call + ": want 0 of none", asked.on(desk.of(0), 0), NONE);
        due(call + ": want 0 of one", asked.on(desk.of(1), 0), taken);
        due(call + ": want 1 of one", asked.on(desk.of(1), 1), NONE);
        due(call + ": want 2 of three", asked.on(desk.of(3), 2), taken);
        due(call + ": want 3 of three", asked.on(desk.of(3), 3), NONE);
        due(call + ": want 0 of 20", asked.on(desk.of(20), 0), taken);
        due(call + ": want 19 of 20", asked.on(desk.of(20), 19), taken);
        for (int want : new int[] {20, 21, 31, 32, 51, 64, -1, -13, -32, -100, LOW, LOW + 19, HIGH}) {
            due(call + ": want " + want + " of 20", asked.on(desk.of(20), want), NONE);
        }
        refusedAll(call, Edges::desk, asked, NONE, -1, DESK_WANTS, 20, 32, -32, LOW, HIGH);
    }

    /** Calls that take IN or OUT, by that number: 0 and 7 are taken. */
    static void tickEdges(String call, Asked asked, int with0, int with7) {
        due(call + " with 0", asked.on(desk(), 0), with0);
        due(call + " with 7", asked.on(desk(), 7), with7);
        refusedAll(call, Edges::desk, asked, NONE, 8, -1, 9, 15, 16, 64, -8, LOW, LOW + 7, HIGH);
    }

    /** Calls that take a DAY from 0 to the last one. */
    static void dayEdges(String call, Asked asked, int onFirst, int onLast) {
        due(call + " on day 0", asked.on(desk(), 0), onFirst);
        due(call + " on the last day", asked.on(desk(), LAST_DAY), onLast);
        refusedAll(call, Edges::desk, asked, NONE, -1, LAST_DAY + 1, LOW, HIGH);
    }

    /** Calls that tell what is KNOWN on a DAY, on desks with one want that is led to PART 0. */
    static void knownEdges(Asked asked, int there, int away) {
        Bench early = ledOn(0);
        due("read on day 0, known on day 0", asked.on(early, 0), there);
        due("read on day 0, known on the last day", asked.on(early, LAST_DAY), there);
        Bench x = ledOn(3);
        due("read on day 3, known on day 2", asked.on(x, 2), away);
        due("read on day 3, known on day 3", asked.on(x, 3), there);
        due("read on day 3, known on day 4", asked.on(x, 4), there);
        x.today(7);
        x.giveUp(0);
        x.today(9);
        due("given up on day 7, known on day 2", asked.on(x, 2), away);
        due("given up on day 7, known on day 3", asked.on(x, 3), there);
        due("given up on day 7, known on day 6", asked.on(x, 6), there);
        due("given up on day 7, known on day 7", asked.on(x, 7), away);
        due("given up on day 7, known on day 8", asked.on(x, 8), away);
        due("given up on day 7, known on the last day", asked.on(x, LAST_DAY), away);
        Bench short0 = ledOn(5);
        short0.giveUp(0);
        due("read and given up on day 5, known on day 4", asked.on(short0, 4), away);
        due("read and given up on day 5, known on day 5", asked.on(short0, 5), away);
        due("read and given up on day 5, known on day 6", asked.on(short0, 6), away);
        Bench first = ledOn(0);
        first.giveUp(0);
        due("given up on day 0, known on day 0", asked.on(first, 0), away);
        Bench last = ledOn(LAST_DAY);
        due("read on the last day, known the day before", asked.on(last, LAST_DAY - 1), away);
        due("read on the last day, known on it", asked.on(last, LAST_DAY), there);
        Bench end = ledOn(0);
        end.today(LAST_DAY);
        end.giveUp(0);
        due("given up on the last day, known the day before", asked.on(end, LAST_DAY - 1), there);
        due("given up on the last day, known on it", asked.on(end, LAST_DAY), away);
    }

    private static Bench ledOn(int day) {
        Bench x = new Bench();
        x.today(day);
        x.read("!x");
        x.part();
        x.lead(0, 0, 1);
        return x;
    }

    /** Calls that take a PART, by its number; taken is the answer for one that is there. */
    static void partEdges(String call, Asked asked, int taken, int least) {
        due(call + ": part 0 of none", asked.on(withParts(0, "!x"), 0), NONE);
        due(call + ": the last of three", asked.on(withParts(3, "!x"), 2), taken);
        due(call + ": part 3 of three", asked.on(withParts(3, "!x"), 3), NONE);
        due(call + ": the least of 20", asked.on(withParts(20, "!x"), least), taken);
        due(call + ": part 19 of 20", asked.on(withParts(20, "!x"), 19), taken);
        for (int part : new int[] {20, 31, 32, 51, -1, -13, -32, LOW, LOW + 19, HIGH}) {
            due(call + ": part " + part + " of 20", asked.on(withParts(20, "!x"), part), NONE);
        }
        refusedAll(call, Edges::desk, asked, NONE, -1, DESK_PARTS, 20, 32, 34, -32, LOW, HIGH);
    }

    /** Calls that take a SET of at most so many wants; one and mostOnes are the answers for SETS of one !x and of the most. */
    static void setEdges(String call, Asked asked, int most, int one, int mostOnes) {
        int full = (1 << most) - 1;
        due(call + ": of no wants", asked.on(new Bench(), 0), NONE);
        due(call + ": want 0 of none", asked.on(new Bench(), 1), NONE);
        due(call + ": one", asked.on(withMany(7, "!x"), 1), one);
        due(call + ": the last", asked.on(withMany(7, "!x"), 1 << 6), one);
        due(call + ": the most", asked.on(withMany(7, "!x"), full), mostOnes);
        due(call + ": given up", asked.on(givenUp(7), full), mostOnes);
        due(call + ": the last of 20", asked.on(withMany(20, "!x"), 1 << 19), one);
        due(call + ": the last most of 20", asked.on(withMany(20, "!x"), full << 20 - most), mostOnes);
        int tooMany = (1 << most + 1) - 1;
        int[] none = {0, tooMany, tooMany << 19 - most, (1 << 20) - 1, 1 << 20, 1 << 19 | 1 << 20, 1 << 31, 1 | 1 << 31, -1, LOW, HIGH};
        for (int set : none) {
            due(call + ": " + set + " of 20", asked.on(withMany(20, "!x"), set), NONE);
        }
        refusedAll(call, Edges::desk, asked, NONE, 0, tooMany, 1 << DESK_WANTS, 1 | 1 << DESK_WANTS, 1 << 20, LOW, LOW + 1, -1, HIGH);
    }

    private static Bench givenUp(int wants) {
        Bench x = withMany(wants, "!x");
        for (int w = 0; w < wants; w++) {
            x.giveUp(w);
        }
        return x;
    }
}
