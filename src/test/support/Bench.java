/** A WantsBench that counts its calls: nothing is promised behind the 512th, so no test may ask there. */
final class Bench {
    private static final int PROMISED = 512;

    private final WantsBench bench = new WantsBench();
    private int calls;

    /** Feeds a text four bytes at a time and answers what the last feed() did, or how many bytes there are. */
    int feed(String text) {
        int answer = text.isEmpty() ? count(5) : 0;
        for (int at = 0; at < text.length(); at += 4) {
            int n = Math.min(4, text.length() - at);
            int v = 0;
            for (int i = 0; i < n; i++) {
                v |= (text.charAt(at + i) & 255) << 8 * i;
            }
            answer = feed(n, v);
        }
        return answer;
    }

    /** Feeds a text and has it read, of OWNER 0 with WORTH and EASE 1. */
    int read(String text) {
        return read(text, 1, 1);
    }

    int read(String text, int worth, int ease) {
        feed(text);
        return want(0, worth, ease);
    }

    /** How many calls may still be made. */
    int left() {
        return PROMISED - calls;
    }

    private WantsBench counted() {
        calls++;
        if (calls > PROMISED) {
            throw new IllegalStateException("a test asks an object more than " + PROMISED + " times");
        }
        return bench;
    }

    int today(int d) {
        return counted().today(d);
    }

    int feed(int n, int v) {
        return counted().feed(n, v);
    }

    int want(int owner, int worth, int ease) {
        return counted().want(owner, worth, ease);
    }

    int giveUp(int want) {
        return counted().giveUp(want);
    }

    int about(int want, int what) {
        return counted().about(want, what);
    }

    int holds(int want, int which, int in, int out) {
        return counted().holds(want, which, in, out);
    }

    int next(int want, int state, int told) {
        return counted().next(want, state, told);
    }

    int can(int set) {
        return counted().can(set);
    }

    int safe(int set) {
        return counted().safe(set);
    }

    int play(int set) {
        return counted().play(set);
    }

    int tick(int in) {
        return counted().tick(in);
    }

    int open(int in) {
        return counted().open(in);
    }

    int state(int want) {
        return counted().state(want);
    }

    int loses(int set) {
        return counted().loses(set);
    }

    int world(int set) {
        return counted().world(set);
    }

    int quarrel(int set) {
        return counted().quarrel(set);
    }

    int follows(int want, int set) {
        return counted().follows(want, set);
    }

    int peace(int set) {
        return counted().peace(set);
    }

    int made(int want) {
        return counted().made(want);
    }

    int told(int in, int out) {
        return counted().told(in, out);
    }

    int clear() {
        return counted().clear();
    }

    int held(int want) {
        return counted().held(want);
    }

    int kept(int k) {
        return counted().kept(k);
    }

    int part() {
        return counted().part();
    }

    int use(int part, int other, int is) {
        return counted().use(part, other, is);
    }

    int lead(int want, int part, int is) {
        return counted().lead(want, part, is);
    }

    int gaps(int k) {
        return counted().gaps(k);
    }

    int bare(int k) {
        return counted().bare(k);
    }

    int reach(int want) {
        return counted().reach(want);
    }

    int wants(int part, int k) {
        return counted().wants(part, k);
    }

    int count(int what) {
        return counted().count(what);
    }
}
