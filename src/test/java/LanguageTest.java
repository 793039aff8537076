import java.lang.reflect.Constructor;
import java.lang.reflect.Field;
import java.lang.reflect.Method;
import java.lang.reflect.Modifier;
import java.nio.file.Files;
import java.nio.file.Path;
import java.util.Set;
import java.util.TreeSet;
import java.util.regex.Matcher;
import java.util.regex.Pattern;

/** The rules of LANGUAGE.md that can be seen from outside, and any arguments in any state. */
public final class LanguageTest {
    private static final String FACE = "asleep back beds best count end eye fault feed fits forget hear keep late lawful"
        + " lay mean missed need needed odds open read rest round rule sees sheet sister storm tell text tire tired torn"
        + " turn watch without wreck";

    private static void face() {
        Set<String> methods = new TreeSet<>();
        for (Method m : ThreeAwake.class.getDeclaredMethods()) {
            boolean open = Modifier.isPublic(m.getModifiers());
            Check.dueTrue(m + " is public or private", open || Modifier.isPrivate(m.getModifiers()));
            if (open) {
                Check.dueTrue(m + " stands once", methods.add(m.getName()));
                boolean isLong = m.getName().equals("odds") || m.getName().equals("mean");
                Check.dueTrue(m + " answers as told", m.getReturnType() == (isLong ? long.class : int.class));
            }
        }
        Check.dueTrue("the face is as told: " + methods, String.join(" ", methods).equals(FACE));
        Set<String> constants = new TreeSet<>();
        for (Field f : ThreeAwake.class.getDeclaredFields()) {
            boolean open = Modifier.isPublic(f.getModifiers());
            Check.dueTrue(f + " is public or private", open || Modifier.isPrivate(f.getModifiers()));
            Check.dueTrue(f + ": static is final",
                !Modifier.isStatic(f.getModifiers()) || Modifier.isFinal(f.getModifiers()));
            if (open) {
                constants.add(f.getName());
            }
        }
        Check.dueTrue("the constants are as told", constants.toString().equals("[BAD, FULL, NONE, STATE]"));
        Constructor<?>[] constructors = ThreeAwake.class.getDeclaredConstructors();
        Check.due("constructors", constructors.length, 1);
        Check.dueTrue("class and constructor are public", Modifier.isPublic(constructors[0].getModifiers())
            && Modifier.isPublic(ThreeAwake.class.getModifiers()) && Modifier.isFinal(ThreeAwake.class.getModifiers()));
        Check.due("BAD", ThreeAwake.BAD, -1);
        Check.due("STATE", ThreeAwake.STATE, -2);
        Check.due("FULL", ThreeAwake.FULL, -3);
        Check.due("NONE", ThreeAwake.NONE, -4);
    }

    private static void inside() {
        Class<?>[] inner = ThreeAwake.class.getDeclaredClasses();
        Check.dueTrue("some twelve classes at most", inner.length + 1 <= 12);
        Set<String> face = Set.of(FACE.split(" "));
        for (Class<?> c : inner) {
            Check.dueTrue(c + " is static", Modifier.isStatic(c.getModifiers()));
            Check.dueTrue(c + " is not public", !Modifier.isPublic(c.getModifiers()));
            int fields = 0;
            for (Field f : c.getDeclaredFields()) {
                fields += Modifier.isStatic(f.getModifiers()) ? 0 : 1;
            }
            Check.dueTrue(c + " has some twenty fields at most", fields <= 20);
            for (Method m : c.getDeclaredMethods()) {
                Check.dueTrue(m + " bears no public name", !face.contains(m.getName()));
                Check.dueTrue(m + " takes seven at most", m.getParameterCount() <= 7);
            }
        }
    }

    private static void words() throws Exception {
        Path source = Path.of("src/main/java/ThreeAwake.java");
        String text = Files.readString(source);
        String code = text.replaceAll("(?s)/\\*.*?\\*/", " ").replaceAll("//[^\n]*", " ");
        String banned = "\\b(throw|try|catch|synchronized|assert|package|Object|Random|System\\.(?!arraycopy)\\w+|Thread)\\b"
            + "|->|::|Exact\\(|\" \\+|\\+ \"";
        Matcher m = Pattern.compile(banned).matcher(code);
        while (m.find()) {
            Check.dueTrue("no " + m.group() + " in the program", false);
        }
        Matcher imports = Pattern.compile("import ([^;]+);").matcher(code);
        while (imports.find()) {
            Check.dueTrue("import of " + imports.group(1), imports.group(1).equals("java.util.Arrays"));
        }
        Check.dueTrue("signs 1 to 127 alone", text.chars().allMatch(c -> c >= 1 && c <= 127));
        methodLengths(code);
    }

    private static void methodLengths(String code) {
        int begun = -1;
        String[] lines = code.split("\n", -1);
        for (int i = 0; i < lines.length; i++) {
            if (lines[i].matches(" {4}( {4})?[\\w\\[\\]]+[^=;]*\\([^;]*\\) \\{")) {
                begun = i;
            }
            if (begun >= 0 && lines[i].matches(" {4}( {4})?}")) {
                Check.dueTrue("the method at line " + begun + " is short", i - begun <= 60);
                begun = -1;
            }
        }
    }

    /** Every method with every mixture of odd numbers answers, and what it makes is little. */
    private static void anyArguments() throws Exception {
        int[] odd = {Integer.MIN_VALUE, -20, -1, 0, 1, 2, 3, 4, 5, 6, 9, 10, 12, 13, 15, 16, 26, 27, 40, 41, Integer.MAX_VALUE};
        String[] texts = {"", "sister glass 15 15 9 9;", "sister visitor 1 2 9 8;sister dreamer 4 8 7 6;quarters 1;",
            "sister plain 15 3 1 2;sister dreamer 7 9 3 4;sister glass 1 2 3 4;quarters 6;need 0 2;need 1 1;storm 5 3;"};
        long seed = 7;
        for (int run = 0; run < 200; run++) {
            ThreeAwake x = Check.told(texts[run % texts.length]);
            for (Method m : ThreeAwake.class.getDeclaredMethods()) {
                if (!Modifier.isPublic(m.getModifiers())) {
                    continue;
                }
                for (int call = 0; call < 12; call++) {
                    Class<?>[] types = m.getParameterTypes();
                    Object[] with = new Object[types.length];
                    for (int i = 0; i < with.length; i++) {
                        seed = seed * 6364136223846793005L + 1442695040888963407L;
                        int v = odd[(int) Math.floorMod(seed >>> 33, (long) odd.length)];
                        with[i] = types[i] == boolean.class ? (Object) (v > 5) : types[i] == long.class ? (Object) seed : (Object) v;
                    }
                    // Whatever the machine finds would end this test.
                    m.invoke(x, with);
                }
            }
        }
    }

    private static void room() {
        com.sun.management.ThreadMXBean bean =
            (com.sun.management.ThreadMXBean) java.lang.management.ManagementFactory.getThreadMXBean();
        long thread = Thread.currentThread().getId();
        ThreeAwake x = Check.told("sister plain 15 15 1 2;sister plain 15 15 3 4;sister plain 15 15 5 6;quarters 6;need 0 3;");
        long before = bean.getThreadAllocatedBytes(thread);
        for (int i = 0; i < 54; i++) {
            x.beds(0);
            x.best(15);
            x.round(12);
            x.mean(5, 0);
            x.sheet(0, 0, 40);
            x.keep(0);
            x.back(0);
            x.feed(i);
            x.end(0);
        }
        long made = bean.getThreadAllocatedBytes(thread) - before;
        // An object is more than a byte, an element at least one: both rooms are wide enough then.
        Check.dueTrue("a run's calls keep to its room: " + made + " bytes", made < 600_000);
    }

    public static void main(String[] args) throws Exception {
        face();
        inside();
        words();
        anyArguments();
        room();
        Check.finish();
    }
}
