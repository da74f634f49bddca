import java.lang.management.ManagementFactory;
import java.lang.reflect.Constructor;
import java.lang.reflect.Field;
import java.lang.reflect.Method;
import java.lang.reflect.Modifier;
import java.nio.file.Files;
import java.nio.file.Path;
import java.util.Set;
import java.util.TreeSet;
import java.util.regex.Matcher;
import java.util.regex.Pattern;

/** The face of the document, the rules of LANGUAGE.md that can be seen in the text, wild arguments, and the room a run takes. */
public final class RulesTest {
    private static final String FACE = "today1 feed2 want3 giveUp1 about2 holds4 next3 can1 safe1 play1 tick1 open1 state1 loses1 world1"
        + " quarrel1 follows2 peace1 made1 told2 clear0 held1 kept1 part0 use3 lead3 gaps1 bare1 reach1 wants2 count1";

    private static int wrong = 0;

    public static void main(String[] args) throws Exception {
        face();
        source(Files.readString(Path.of("src/main/java/WantsBench.java")));
        wildArguments();
        room();
        System.out.println(wrong == 0 ? "the rules are kept" : wrong + " rules are broken");
        if (wrong != 0) {
            System.exit(1);
        }
    }

    private static void check(String rule, boolean is) {
        if (!is) {
            wrong++;
            System.out.println(rule);
        }
    }

    private static void face() throws Exception {
        Set<String> due = new TreeSet<>(Set.of(FACE.split(" ")));
        Set<String> found = new TreeSet<>();
        Set<String> others = new TreeSet<>();
        for (Method m : WantsBench.class.getDeclaredMethods()) {
            if (Modifier.isPublic(m.getModifiers())) {
                found.add(m.getName() + m.getParameterCount());
                check(m + " answers an int", m.getReturnType() == int.class && !Modifier.isStatic(m.getModifiers()));
                for (Class<?> type : m.getParameterTypes()) {
                    check(m + " takes ints", type == int.class);
                }
            } else if (!m.isSynthetic()) {
                others.add(m.getName());
                check(m + " is private", Modifier.isPrivate(m.getModifiers()));
            }
        }
        check("the methods are " + found, found.equals(due));
        for (String name : due) {
            check("a private method is named as " + name, !others.contains(name.substring(0, name.length() - 1)));
        }
        int constants = 0;
        for (Field f : WantsBench.class.getDeclaredFields()) {
            boolean isPublic = Modifier.isPublic(f.getModifiers());
            constants += isPublic ? 1 : 0;
            check(f + " is private", isPublic || Modifier.isPrivate(f.getModifiers()));
        }
        check("four constants", constants == 4);
        check("NONE", WantsBench.NONE == -1 && WantsBench.FULL == -2 && WantsBench.THERE == -3 && WantsBench.NOT == -4);
        Constructor<?>[] made = WantsBench.class.getDeclaredConstructors();
        check("one public constructor", made.length == 1 && Modifier.isPublic(made[0].getModifiers()) && made[0].getParameterCount() == 0);
        check("final", Modifier.isFinal(WantsBench.class.getModifiers()));
    }

    private static void source(String text) {
        String code = text.replaceAll("(?s)/\\*.*?\\*/", " ").replaceAll("//[^\\n]*", " ");
        for (String word : "throw try catch synchronized assert import package instanceof protected equals hashCode toString random".split(" ")) {
            check("the word " + word, !Pattern.compile("\\b" + word + "\\b").matcher(code).find());
        }
        check("no lambda, no method reference", !code.contains("->") && !code.contains("::"));
        check("no division: nothing to look at ahead of it", !code.contains("/") && !code.contains("%"));
        check("signs 1 to 127", text.chars().allMatch(c -> c > 0 && c < 128));
        Matcher classes = Pattern.compile("\\bclass\\b").matcher(code);
        check("some twelve classes", classes.results().count() <= 12);
    }

    private static void wildArguments() throws Exception {
        int[] wild = {Integer.MIN_VALUE, Integer.MIN_VALUE + 1, -101, -2, -1, 0, 1, 2, 3, 4, 5, 6, 7, 8, 15, 19, 20, 31, 32, 33, 63, 64,
            1 << 19, 1 << 20, 1 << 31, 10000, Integer.MAX_VALUE};
        WantsBench x = new WantsBench();
        int seed = 1;
        for (int round = 0; round < 4000; round++) {
            if (round % 14 == 0) {
                x = new WantsBench();
            }
            if (round % 14 < round % 20) {
                x.feed(4, 'a' | '>' << 8 | 'x' << 16 | '1' << 24);
                x.want(0, 1, 1);
                x.part();
            }
            for (Method m : WantsBench.class.getDeclaredMethods()) {
                if (Modifier.isPublic(m.getModifiers())) {
                    Object[] args = new Object[m.getParameterCount()];
                    for (int i = 0; i < args.length; i++) {
                        seed = seed * 1103515245 + 12345;
                        args[i] = wild[(seed >>> 8) % wild.length];
                    }
                    m.invoke(x, args);
                }
            }
        }
    }

    /** Whatever is asked of it, an object makes its rows once, and one small object for a want that is read. */
    private static void room() {
        com.sun.management.ThreadMXBean threads = (com.sun.management.ThreadMXBean) ManagementFactory.getThreadMXBean();
        long thread = Thread.currentThread().getId();
        threads.getThreadAllocatedBytes(thread);
        long before = threads.getThreadAllocatedBytes(thread);
        WantsBench x = new WantsBench();
        long made = threads.getThreadAllocatedBytes(thread) - before;
        for (int w = 0; w < 20; w++) {
            x.feed(4, 'a' + w % 3 | (w % 2 == 0 ? '>' : ';') << 8 | 'x' + w / 2 % 3 << 16 | '0' + w % 4 << 24);
            x.want(0, 1, 1);
        }
        for (int i = 0; i < 78; i++) {
            int set = 31 << i % 16;
            x.play(set);
            x.tick(7);
            x.safe(set);
            x.quarrel(set);
            x.follows((i + 5) % 20, 15 << i % 16);
            x.peace(15 << i % 16);
        }
        long all = threads.getThreadAllocatedBytes(thread) - before;
        check("a new object takes " + made + " bytes", made < 40_000);
        check("all calls of a run take " + all + " bytes", all < 50_000);
    }
}
