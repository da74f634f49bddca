import java.util.ArrayDeque;
import java.util.ArrayList;
import java.util.Arrays;
import java.util.Deque;
import java.util.List;
import java.util.Random;
import java.util.TreeMap;
import java.util.TreeSet;

/**
 * Random runs of calls on WantsBench beside a slow model that follows the document word by word
 * (texts by a stack machine, truth by cutting strings, games over all positions, peace over all terms).
 */
public final class OracleTest {
    private static final int RUNS = 600;
    /** How many calls one text and one step may take at most. */
    private static final int OF_A_TEXT = 90, OF_A_STEP = 25;
    private static final int[] ODD = {-1, 0, 1, 2, 4, 5, 7, 8, 9, 10, 19, 20, 21, 31, 32, 63, 64, 99, 100, 9999, 10000,
        1 << 20, 1 << 30, Integer.MAX_VALUE, Integer.MIN_VALUE, -8};

    private static int wrong = 0;
    private static long checked = 0;
    private static final TreeMap<String, Integer> seen = new TreeMap<>();

    private final Random random;
    private final Bench bench = new Bench();
    private final Model model = new Model();
    private final StringBuilder log = new StringBuilder();
    private final int run;

    private OracleTest(int run) {
        this.run = run;
        this.random = new Random(7919L * run + 17);
    }

    public static void main(String[] args) {
        int runs = args.length > 0 ? Integer.parseInt(args[0]) : RUNS;
        for (int r = 0; r < runs && wrong == 0; r++) {
            new OracleTest(r).drive();
        }
        if (args.length > 1) {
            seen.forEach((k, v) -> System.out.println(k + ": " + v));
        }
        System.out.println(checked + " calls beside the model, " + wrong + " wrong");
        if (wrong != 0) {
            System.exit(1);
        }
    }

    private void due(String name, int got, int want, int... args) {
        checked++;
        String call = name + Arrays.toString(args) + " = " + got;
        log.append(call).append('\n');
        String sort = got < 0 ? String.valueOf(Math.max(got, -100)) : got > 9 ? ">9" : String.valueOf(got);
        seen.merge(name + " " + sort, 1, Integer::sum);
        if (got != want) {
            wrong++;
            System.out.println(log);
            System.out.println("run " + run + ": " + call + ", due is " + want);
        }
    }

    private void drive() {
        int firstParts = run % 3 == 0 ? random.nextInt(21) : 0;
        for (int i = 0; i < firstParts; i++) {
            due("part", bench.part(), model.part());
        }
        int firstWants = random.nextInt(9);
        for (int i = 0; i < firstWants && bench.left() >= OF_A_TEXT; i++) {
            readOne(run % 7 == 0);
        }
        while (bench.left() >= OF_A_STEP && wrong == 0) {
            step();
        }
    }

    private void step() {
        int pick = random.nextInt(100);
        if (pick < 5) {
            if (bench.left() >= OF_A_TEXT) {
                readOne(false);
            }
        } else if (pick < 45) {
            game();
        } else if (pick < 60) {
            playing();
        } else if (pick < 85) {
            runsAndParts();
        } else {
            desk();
        }
    }

    private int any(int least, int most) {
        return random.nextInt(25) == 0 ? ODD[random.nextInt(ODD.length)] : least + random.nextInt(most - least + 1);
    }

    private int anyWant() {
        return any(0, Math.max(0, model.wants.size() - 1));
    }

    private int anyPart() {
        return any(0, Math.max(0, model.uses.size() - 1));
    }

    private int anyDay() {
        return random.nextInt(20) == 0 ? any(0, 9999) : Math.max(0, model.day + random.nextInt(7) - 4);
    }

    private int anySet(int most) {
        if (random.nextInt(30) == 0) {
            return ODD[random.nextInt(ODD.length)];
        }
        int many = 1 + random.nextInt(most + (random.nextInt(12) == 0 ? 1 : 0));
        int set = 0;
        for (int i = 0; i < many; i++) {
            set |= 1 << random.nextInt(Math.max(1, model.wants.size()));
        }
        return set;
    }

    private void readOne(boolean mostlyLong) {
        String text = mostlyLong || random.nextInt(6) == 0 ? Texts.longOne(random) : Texts.shortOne(random);
        for (int at = 0; at < text.length();) {
            int n = Math.min(text.length() - at, 1 + random.nextInt(4));
            int v = random.nextInt();
            for (int i = 0; i < n; i++) {
                v = v & ~(255 << 8 * i) | text.charAt(at + i) << 8 * i;
            }
            due("feed", bench.feed(n, v), model.feed(n, v), n, v);
            at += n;
        }
        int owner = any(0, 9);
        int worth = any(1, random.nextBoolean() ? 99 : 9);
        int ease = any(1, random.nextInt(4) == 0 ? 99 : 4);
        due("want", bench.want(owner, worth, ease), model.want(owner, worth, ease), owner, worth, ease);
    }

    private void desk() {
        int want = anyWant();
        switch (random.nextInt(7)) {
            case 0: {
                int d = random.nextInt(4) == 0 ? any(0, 9999) / 50 : model.day + random.nextInt(3) - (random.nextInt(5) == 0 ? 2 : 0);
                due("today", bench.today(d), model.today(d), d);
                break;
            }
            case 1: {
                int n = any(0, 5);
                int v = random.nextInt();
                if (random.nextInt(3) == 0) {
                    due("feed", bench.feed(n, v), model.feed(n, v), n, v);
                }
                break;
            }
            case 2:
                if (random.nextInt(3) == 0) {
                    due("giveUp", bench.giveUp(want), model.giveUp(want), want);
                }
                break;
            case 3: {
                int what = any(0, 8);
                due("about", bench.about(want, what), model.about(want, what), want, what);
                break;
            }
            case 4: {
                int which = any(0, 1);
                int in = any(0, 7);
                int out = any(0, 7);
                due("holds", bench.holds(want, which, in, out), model.holds(want, which, in, out), want, which, in, out);
                break;
            }
            case 5: {
                int state = any(0, 3);
                int told = any(0, 63);
                due("next", bench.next(want, state, told), model.next(want, state, told), want, state, told);
                break;
            }
            default: {
                int what = any(0, 5);
                due("count", bench.count(what), model.count(what), what);
                break;
            }
        }
    }

    private void game() {
        int set = anySet(5);
        switch (random.nextInt(8)) {
            case 0: due("can", bench.can(set), model.can(set), set); break;
            case 1: due("safe", bench.safe(set), model.safe(set), set); break;
            case 2: due("loses", bench.loses(set), model.loses(set), set); break;
            case 3: due("world", bench.world(set), model.world(set), set); break;
            case 4: due("quarrel", bench.quarrel(set), model.quarrel(set), set); break;
            case 5: {
                int want = anyWant();
                int few = anySet(4);
                due("follows", bench.follows(want, few), model.follows(want, few), want, few);
                break;
            }
            case 6: {
                int few = anySet(4);
                due("peace", bench.peace(few), model.peace(few), few);
                for (int w = 0; w < model.wants.size(); w++) {
                    if ((few >> w & 1) == 1) {
                        due("made", bench.made(w), model.made(w), w);
                    }
                }
                break;
            }
            default: {
                int want = anyWant();
                due("made", bench.made(want), model.made(want), want);
                break;
            }
        }
    }

    private void playing() {
        if (random.nextInt(6) == 0) {
            int set = anySet(5);
            due("play", bench.play(set), model.play(set), set);
        }
        for (int i = 0; i < 3; i++) {
            int in = any(0, 7);
            int want = anyWant();
            switch (random.nextInt(3)) {
                case 0: due("tick", bench.tick(in), model.tick(in), in); break;
                case 1: due("open", bench.open(in), model.open(in), in); break;
                default: due("state", bench.state(want), model.state(want), want); break;
            }
        }
    }

    private void runsAndParts() {
        int want = anyWant();
        int part = anyPart();
        int k = anyDay();
        switch (random.nextInt(12)) {
            case 0: case 1: case 2: {
                int in = any(0, 7);
                int out = any(0, 7);
                due("told", bench.told(in, out), model.told(in, out), in, out);
                break;
            }
            case 3:
                if (random.nextInt(6) == 0) {
                    due("clear", bench.clear(), model.clear());
                }
                break;
            case 4: due("held", bench.held(want), model.held(want), want); break;
            case 5: due("kept", bench.kept(k), model.kept(k), k); break;
            case 6: due("part", bench.part(), model.part()); break;
            case 7: {
                int other = random.nextInt(6) == 0 ? anyPart() : any(0, Math.max(0, part - 1) & 31);
                int is = random.nextInt(4) == 0 ? any(0, 1) : 1;
                due("use", bench.use(part, other, is), model.use(part, other, is), part, other, is);
                break;
            }
            case 8: {
                int is = random.nextInt(4) == 0 ? any(0, 1) : 1;
                due("lead", bench.lead(want, part, is), model.lead(want, part, is), want, part, is);
                break;
            }
            case 9: due("gaps", bench.gaps(k), model.gaps(k), k); break;
            case 10: due("bare", bench.bare(k), model.bare(k), k); break;
            default:
                due("reach", bench.reach(want), model.reach(want), want);
                due("wants", bench.wants(part, k), model.wants(part, k), part, k);
                break;
        }
    }

    /** Texts: short ones that make games worth playing, long ones, and spoiled ones. */
    private static final class Texts {
        static String shortOne(Random r) {
            String text;
            switch (r.nextInt(9)) {
                case 0: text = "!" + few(r, "xyzxyzab", 2) + "&" + few(r, "xyz", 1); break;
                case 1: case 2: text = few(r, "abcabc1xyz", 2) + ">" + few(r, "xyzxyzxyzab", 2) + r.nextInt(4); break;
                case 3: case 4: text = few(r, "abcabcxy", 1) + ">" + few(r, "xxyz", 1) + r.nextInt(4); break;
                case 5: text = few(r, "abcabcxy", 1) + ";" + few(r, "xxyz", 1) + r.nextInt(4); break;
                case 6: case 7: text = few(r, "abcabc1xyz", 2) + ";" + few(r, "xyzxyzxyzab", 2) + r.nextInt(4); break;
                default: text = few(r, "abcxyz01", 3) + ">;".charAt(r.nextInt(2)) + few(r, "abcxyz01", 3) + r.nextInt(4); break;
            }
            return r.nextInt(15) == 0 ? spoiled(r, text) : text;
        }

        private static String few(Random r, String letters, int most) {
            StringBuilder s = new StringBuilder();
            int many = 1 + r.nextInt(most);
            for (int i = 0; i < many; i++) {
                if (i > 0) {
                    s.append("|&".charAt(r.nextInt(2)));
                }
                if (r.nextInt(3) == 0) {
                    s.append('~');
                }
                s.append(letters.charAt(r.nextInt(letters.length())));
            }
            return s.toString();
        }

        static String longOne(Random r) {
            String text;
            do {
                int depth = r.nextInt(12);
                text = r.nextInt(3) == 0 ? "!" + deep(r, depth)
                    : deep(r, depth) + ">;".charAt(r.nextInt(2)) + deep(r, r.nextInt(12)) + r.nextInt(5);
                if (r.nextInt(3) == 0) {
                    text = spoiled(r, text);
                }
            } while (text.length() > 84);
            return text;
        }

        private static String deep(Random r, int depth) {
            if (depth <= 0) {
                return String.valueOf("abcxyz01".charAt(r.nextInt(8)));
            }
            switch (r.nextInt(5)) {
                case 0: return "~" + unit(r, depth - 1);
                case 1: return "(" + deep(r, depth - 1) + ")";
                case 2: return unit(r, depth - 1) + "&" + unit(r, r.nextInt(3));
                case 3: return deep(r, r.nextInt(3)) + "|" + deep(r, depth - 1);
                default: return "(" + deep(r, depth - 1) + "|" + deep(r, 0) + ")";
            }
        }

        private static String unit(Random r, int depth) {
            String s = deep(r, depth);
            return s.length() == 1 || s.charAt(0) == '~' && s.indexOf('&') < 0 && s.indexOf('|') < 0 ? s : "(" + s + ")";
        }

        private static String spoiled(Random r, String text) {
            StringBuilder s = new StringBuilder(text);
            int at = r.nextInt(text.length());
            String signs = "abcxyz01234~()&|!>; A\0";
            char sign = r.nextInt(12) == 0 ? (char) r.nextInt(256) : signs.charAt(r.nextInt(signs.length()));
            switch (r.nextInt(4)) {
                case 0: s.setCharAt(at, sign); break;
                case 1: s.insert(at, sign); break;
                case 2: s.deleteCharAt(at); break;
                default: s.setLength(at); break;
            }
            return s.toString();
        }
    }

    private static final class Want {
        int sort, n, owner, worth, ease, day, up = -1, length;
        String e, f;
        final TreeSet<Integer> led = new TreeSet<>();
        final boolean[] eHolds = new boolean[64], fHolds = new boolean[64];

        /** As the document tells it; -1: BROKEN. */
        int step(int length, int state, int told) {
            boolean eNow = eHolds[told];
            boolean fNow = fHolds[told];
            if (sort == 0) {
                return eNow ? -1 : state;
            }
            if (sort == 1) {
                if (fNow) {
                    return 0;
                }
                if (state == 1) {
                    return -1;
                }
                if (state > 1) {
                    return state - 1;
                }
                if (!eNow) {
                    return 0;
                }
                return length == 0 ? -1 : length;
            }
            int s = state;
            if (s > 0) {
                if (!fNow) {
                    return -1;
                }
                s--;
            }
            if (eNow && length > s) {
                s = length;
            }
            return s;
        }
    }

    private static final class Model {
        int day = 0;
        final StringBuilder tape = new StringBuilder();
        final List<Want> wants = new ArrayList<>();
        final List<Integer> run = new ArrayList<>();
        final List<TreeSet<Integer>> uses = new ArrayList<>();
        List<Integer> playSet = null;
        int[] playStates;
        List<Integer> peaceSet = null;
        int[] peaceTerms;

        int today(int d) {
            if (d < day || d > 9999) {
                return -1;
            }
            int was = day;
            day = d;
            return was;
        }

        int feed(int n, int v) {
            if (n < 1 || n > 4) {
                return -1;
            }
            if (tape.length() + n > 80) {
                return -2;
            }
            for (int i = 0; i < n; i++) {
                tape.append((char) ((v >> 8 * i) & 255));
            }
            return tape.length();
        }

        int want(int owner, int worth, int ease) {
            if (owner < 0 || owner > 9 || worth < 1 || worth > 99 || ease < 1 || ease > 99) {
                return -1;
            }
            if (wants.size() == 20) {
                return -2;
            }
            String text = tape.toString();
            tape.setLength(0);
            int fault = fault(text);
            if (fault >= 0) {
                return -100 - fault;
            }
            Want w = new Want();
            cut(w, text);
            w.owner = owner;
            w.worth = worth;
            w.ease = ease;
            w.day = day;
            wants.add(w);
            return wants.size() - 1;
        }

        private static void cut(Want w, String text) {
            w.length = text.length();
            int mid = Math.max(text.indexOf('>'), text.indexOf(';'));
            if (text.charAt(0) == '!') {
                w.sort = 0;
                w.e = text.substring(1);
                w.f = "0";
            } else {
                w.sort = text.charAt(mid) == '>' ? 1 : 2;
                w.e = text.substring(0, mid);
                w.f = text.substring(mid + 1, text.length() - 1);
                w.n = text.charAt(text.length() - 1) - '0';
            }
            for (int told = 0; told < 64; told++) {
                w.eHolds[told] = truth(w.e, told / 8, told % 8);
                w.fHolds[told] = truth(w.f, told / 8, told % 8);
            }
        }

        static int fault(String text) {
            Deque<Character> opened = new ArrayDeque<>();
            boolean never = text.startsWith("!");
            boolean second = false;
            boolean needs = true;
            boolean ended = false;
            for (int i = never ? 1 : 0; i < text.length(); i++) {
                char c = text.charAt(i);
                if (ended) {
                    return i;
                }
                if (needs) {
                    if (c == '~' || c == '(') {
                        if (opened.size() == 10) {
                            return i;
                        }
                        opened.push(c);
                    } else if ("abcxyz01".indexOf(c) >= 0) {
                        needs = false;
                        popDenials(opened);
                    } else {
                        return i;
                    }
                } else if (c == '&' || c == '|') {
                    needs = true;
                } else if (c == ')' && !opened.isEmpty()) {
                    opened.pop();
                    popDenials(opened);
                } else if ((c == '>' || c == ';') && opened.isEmpty() && !never && !second) {
                    second = true;
                    needs = true;
                } else if (c >= '0' && c <= '3' && opened.isEmpty() && second) {
                    ended = true;
                } else {
                    return i;
                }
            }
            return ended || never && !needs && opened.isEmpty() ? -1 : text.length();
        }

        private static void popDenials(Deque<Character> opened) {
            while (!opened.isEmpty() && opened.peek() == '~') {
                opened.pop();
            }
        }

        static boolean truth(String e, int in, int out) {
            for (char sign : new char[] {'|', '&'}) {
                int cut = outer(e, sign);
                if (cut >= 0) {
                    boolean left = truth(e.substring(0, cut), in, out);
                    boolean right = truth(e.substring(cut + 1), in, out);
                    return sign == '|' ? left || right : left && right;
                }
            }
            switch (e.charAt(0)) {
                case '~': return !truth(e.substring(1), in, out);
                case '(': return truth(e.substring(1, e.length() - 1), in, out);
                case '0': return false;
                case '1': return true;
                case 'a': return in % 2 == 1;
                case 'b': return in / 2 % 2 == 1;
                case 'c': return in / 4 == 1;
                case 'x': return out % 2 == 1;
                case 'y': return out / 2 % 2 == 1;
                default: return out / 4 == 1;
            }
        }

        private static int outer(String e, char sign) {
            int depth = 0;
            for (int i = 0; i < e.length(); i++) {
                char c = e.charAt(i);
                depth += c == '(' ? 1 : c == ')' ? -1 : 0;
                if (depth == 0 && c == sign) {
                    return i;
                }
            }
            return -1;
        }

        private boolean none(int want) {
            return want < 0 || want >= wants.size();
        }

        int giveUp(int want) {
            if (none(want)) {
                return -1;
            }
            if (wants.get(want).up != -1) {
                return -3;
            }
            wants.get(want).up = day;
            return 1;
        }

        int about(int want, int what) {
            if (none(want) || what < 0 || what > 8) {
                return -1;
            }
            Want w = wants.get(want);
            return new int[] {w.sort, w.n, w.owner, w.worth, w.ease, w.day, w.up, w.led.size(), w.length}[what];
        }

        int holds(int want, int which, int in, int out) {
            if (none(want) || which < 0 || which > 1 || in < 0 || in > 7 || out < 0 || out > 7) {
                return -1;
            }
            Want w = wants.get(want);
            if (which == 1 && w.sort == 0) {
                return -1;
            }
            return truth(which == 0 ? w.e : w.f, in, out) ? 1 : 0;
        }

        int next(int want, int state, int told) {
            if (none(want) || state < 0 || state > 3 || told < 0 || told > 63) {
                return -1;
            }
            int s = wants.get(want).step(wants.get(want).n, state, told);
            return s == -1 ? -4 : s;
        }

        /** The wants of a set, or null if it is none. */
        private List<Integer> members(int set, int most) {
            List<Integer> list = new ArrayList<>();
            for (int i = 0; i < 32; i++) {
                if ((set >> i & 1) == 1) {
                    if (none(i)) {
                        return null;
                    }
                    list.add(i);
                }
            }
            return list.isEmpty() || list.size() > most ? null : list;
        }

        private int[] lengths(List<Integer> set) {
            int[] n = new int[set.size()];
            for (int i = 0; i < n.length; i++) {
                n[i] = wants.get(set.get(i)).n;
            }
            return n;
        }

        /** The position behind a told, by 4 to the power of the member's place; -1: some want is BROKEN. */
        private int move(List<Integer> set, int[] n, int position, int told) {
            int end = 0;
            int power = 1;
            for (int i = 0; i < n.length; i++) {
                int s = wants.get(set.get(i)).step(n[i], position / power % 4, told);
                if (s == -1) {
                    return -1;
                }
                end += s * power;
                power *= 4;
            }
            return end;
        }

        /** For every position: 0 if SAFE, else LOSES IN. */
        private int[] ranks(List<Integer> set, int[] n) {
            int all = 1 << 2 * n.length;
            int[] rank = new int[all];
            for (int m = 1;; m++) {
                boolean more = false;
                for (int p = 0; p < all; p++) {
                    if (rank[p] == 0 && worldWins(set, n, rank, p, m) >= 0) {
                        rank[p] = m;
                        more = true;
                    }
                }
                if (!more) {
                    return rank;
                }
            }
        }

        private int worldWins(List<Integer> set, int[] n, int[] rank, int p, int m) {
            for (int in = 0; in < 8; in++) {
                boolean wins = true;
                for (int out = 0; out < 8 && wins; out++) {
                    int q = move(set, n, p, 8 * in + out);
                    wins = q == -1 || rank[q] != 0 && rank[q] < m;
                }
                if (wins) {
                    return in;
                }
            }
            return -1;
        }

        int can(int set) {
            List<Integer> list = members(set, 5);
            return list == null ? -1 : ranks(list, lengths(list))[0] == 0 ? 1 : 0;
        }

        int safe(int set) {
            List<Integer> list = members(set, 5);
            if (list == null) {
                return -1;
            }
            int safe = 0;
            for (int rank : ranks(list, lengths(list))) {
                safe += rank == 0 ? 1 : 0;
            }
            return safe;
        }

        int play(int set) {
            List<Integer> list = members(set, 5);
            if (list == null) {
                return -1;
            }
            playSet = list;
            playStates = new int[list.size()];
            return can(set);
        }

        private List<Integer> opens(int in) {
            int[] n = lengths(playSet);
            int[] rank = ranks(playSet, n);
            List<Integer> outs = new ArrayList<>();
            for (int out = 0; out < 8; out++) {
                int q = move(playSet, n, place(), 8 * in + out);
                if (q != -1 && rank[q] == 0) {
                    outs.add(out);
                }
            }
            return outs;
        }

        private int place() {
            int p = 0;
            for (int i = playStates.length - 1; i >= 0; i--) {
                p = 4 * p + playStates[i];
            }
            return p;
        }

        int tick(int in) {
            if (playSet == null || in < 0 || in > 7) {
                return -1;
            }
            List<Integer> outs = opens(in);
            if (outs.isEmpty()) {
                playSet = null;
                return -4;
            }
            for (int i = 0; i < playStates.length; i++) {
                Want w = wants.get(playSet.get(i));
                playStates[i] = w.step(w.n, playStates[i], 8 * in + outs.get(0));
            }
            return outs.get(0);
        }

        int open(int in) {
            return playSet == null || in < 0 || in > 7 ? -1 : opens(in).size();
        }

        int state(int want) {
            int at = playSet == null ? -1 : playSet.indexOf(want);
            return at < 0 ? -1 : playStates[at];
        }

        int loses(int set) {
            List<Integer> list = members(set, 5);
            if (list == null) {
                return -1;
            }
            int rank = ranks(list, lengths(list))[0];
            return rank == 0 ? -4 : rank;
        }

        int world(int set) {
            List<Integer> list = members(set, 5);
            if (list == null) {
                return -1;
            }
            int[] n = lengths(list);
            int[] rank = ranks(list, n);
            return rank[0] == 0 ? -4 : worldWins(list, n, rank, 0, rank[0]);
        }

        int quarrel(int set) {
            if (members(set, 5) == null) {
                return -1;
            }
            List<Integer> best = null;
            for (int part = set; part > 0; part = (part - 1) & set) {
                if (can(part) == 0) {
                    List<Integer> list = members(part, 5);
                    if (best == null || before(list, best)) {
                        best = list;
                    }
                }
            }
            int bits = 0;
            for (int i = 0; best != null && i < best.size(); i++) {
                bits |= 1 << best.get(i);
            }
            return best == null ? -4 : bits;
        }

        private static boolean before(List<Integer> one, List<Integer> other) {
            if (one.size() != other.size()) {
                return one.size() < other.size();
            }
            for (int i = 0; i < one.size(); i++) {
                if (!one.get(i).equals(other.get(i))) {
                    return one.get(i) < other.get(i);
                }
            }
            return false;
        }

        int follows(int want, int set) {
            List<Integer> list = members(set, 4);
            if (list == null || none(want) || list.contains(want)) {
                return -1;
            }
            Want w = wants.get(want);
            int[] n = lengths(list);
            boolean[] been = new boolean[1024];
            been[0] = true;
            for (boolean more = true; more;) {
                more = false;
                for (int p = 0; p < 1024; p++) {
                    for (int told = 0; been[p] && told < 64; told++) {
                        int q = move(list, n, p / 4, told);
                        int s = w.step(w.n, p % 4, told);
                        if (q != -1 && s == -1) {
                            return 0;
                        }
                        if (q != -1 && !been[4 * q + s]) {
                            been[4 * q + s] = true;
                            more = true;
                        }
                    }
                }
            }
            return 1;
        }

        int peace(int set) {
            List<Integer> list = members(set, 4);
            if (list == null) {
                return -1;
            }
            int best = Integer.MAX_VALUE;
            int all = (int) Math.pow(5, list.size());
            int[] terms = new int[list.size()];
            for (int code = 0; code < all; code++) {
                for (int i = terms.length - 1, rest = code; i >= 0; i--, rest /= 5) {
                    terms[i] = rest % 5;
                }
                int price = price(list, terms);
                if (price < best && obeyable(list, terms)) {
                    best = price;
                    peaceSet = list;
                    peaceTerms = terms.clone();
                }
            }
            return best;
        }

        private int price(List<Integer> list, int[] terms) {
            int price = 0;
            for (int i = 0; i < terms.length; i++) {
                Want w = wants.get(list.get(i));
                if (terms[i] >= 1 && terms[i] <= 3 && w.sort == 0) {
                    return Integer.MAX_VALUE;
                }
                price += terms[i] == 4 ? w.worth : terms[i] * w.ease;
            }
            return price;
        }

        private boolean obeyable(List<Integer> list, int[] terms) {
            List<Integer> stay = new ArrayList<>();
            int[] n = new int[4];
            for (int i = 0; i < terms.length; i++) {
                Want w = wants.get(list.get(i));
                if (terms[i] != 4) {
                    n[stay.size()] = w.sort == 1 ? Math.min(3, w.n + terms[i]) : Math.max(0, w.n - terms[i]);
                    stay.add(list.get(i));
                }
            }
            return stay.isEmpty() || ranks(stay, Arrays.copyOf(n, stay.size()))[0] == 0;
        }

        int made(int want) {
            int at = peaceSet == null ? -1 : peaceSet.indexOf(want);
            return at < 0 ? -1 : peaceTerms[at];
        }

        int told(int in, int out) {
            if (in < 0 || in > 7 || out < 0 || out > 7) {
                return -1;
            }
            if (run.size() == 200) {
                return -2;
            }
            run.add(8 * in + out);
            return run.size();
        }

        int clear() {
            int had = run.size();
            run.clear();
            return had;
        }

        int held(int want) {
            if (none(want)) {
                return -1;
            }
            int s = 0;
            for (int t = 0; t < run.size(); t++) {
                s = wants.get(want).step(wants.get(want).n, s, run.get(t));
                if (s == -1) {
                    return t;
                }
            }
            return -4;
        }

        private boolean known(int want, int k) {
            Want w = wants.get(want);
            return w.day <= k && !(w.up != -1 && w.up <= k);
        }

        private static boolean noDay(int k) {
            return k < 0 || k > 9999;
        }

        int kept(int k) {
            int many = 0;
            for (int w = 0; w < wants.size() && !noDay(k); w++) {
                many += known(w, k) && held(w) == -4 ? 1 : 0;
            }
            return noDay(k) ? -1 : many;
        }

        int part() {
            if (uses.size() == 20) {
                return -2;
            }
            uses.add(new TreeSet<>());
            return uses.size() - 1;
        }

        private boolean noPart(int part) {
            return part < 0 || part >= uses.size();
        }

        int use(int part, int other, int is) {
            if (noPart(part) || noPart(other) || other >= part || is < 0 || is > 1) {
                return -1;
            }
            return put(uses.get(part), other, is);
        }

        private static int put(TreeSet<Integer> set, int x, int is) {
            int was = set.contains(x) ? 1 : 0;
            if (is == 1) {
                set.add(x);
            } else {
                set.remove(x);
            }
            return was;
        }

        int lead(int want, int part, int is) {
            if (none(want) || noPart(part) || is < 0 || is > 1) {
                return -1;
            }
            return put(wants.get(want).led, part, is);
        }

        int gaps(int k) {
            int bits = 0;
            for (int w = 0; w < wants.size() && !noDay(k); w++) {
                bits |= known(w, k) && wants.get(w).led.isEmpty() ? 1 << w : 0;
            }
            return noDay(k) ? -1 : bits;
        }

        /** Whether one part is the other, or uses it, or uses one that does, and so on. */
        private boolean isOver(int one, int other) {
            if (one == other) {
                return true;
            }
            for (int used : uses.get(one)) {
                if (isOver(used, other)) {
                    return true;
                }
            }
            return false;
        }

        int bare(int k) {
            if (noDay(k)) {
                return -1;
            }
            int bits = 0;
            for (int p = 0; p < uses.size(); p++) {
                boolean bare = true;
                for (int w = 0; w < wants.size(); w++) {
                    for (int led : wants.get(w).led) {
                        bare &= !(known(w, k) && isOver(led, p));
                    }
                }
                bits |= bare ? 1 << p : 0;
            }
            return bits;
        }

        int reach(int want) {
            if (none(want)) {
                return -1;
            }
            int bits = 0;
            for (int p = 0; p < uses.size(); p++) {
                for (int led : wants.get(want).led) {
                    bits |= isOver(p, led) ? 1 << p : 0;
                }
            }
            return bits;
        }

        int wants(int part, int k) {
            if (noPart(part) || noDay(k)) {
                return -1;
            }
            int bits = 0;
            for (int w = 0; w < wants.size(); w++) {
                bits |= known(w, k) && (reach(w) >> part & 1) == 1 ? 1 << w : 0;
            }
            return bits;
        }

        int count(int what) {
            int there = 0;
            for (int w = 0; w < wants.size(); w++) {
                there += known(w, day) ? 1 : 0;
            }
            return what < 0 || what > 5 ? -1
                : new int[] {wants.size(), day, there, run.size(), uses.size(), tape.length()}[what];
        }
    }
}
