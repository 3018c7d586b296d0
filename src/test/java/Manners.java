import java.io.IOException;
import java.lang.management.ManagementFactory;
import java.lang.reflect.Constructor;
import java.lang.reflect.Field;
import java.lang.reflect.Method;
import java.lang.reflect.Modifier;
import java.nio.file.Files;
import java.nio.file.Path;
import java.util.Arrays;
import java.util.NoSuchElementException;
import java.util.Random;
import java.util.TreeSet;

/** What holds for all promises together: the face, any arguments in any state, the room, and the rules of LANGUAGE.md. */
public final class Manners {
    private static final String FACE = "boolean capacity(int); boolean kin(int,int,int); boolean land(int,int); int body(int); "
            + "int charter(int); int count(int); int dig(int); int fault(int); int feed(int,int,int,int,int); int field(int); "
            + "int fits(int,int,int); int judge(int); int letter(int); int likely(int); int line(int); int look(int,int); "
            + "int man(int,int,int,int,int); int missing(int); int named(int,int); int near(int,int); int next(int,int); "
            + "int plan(int); int read(int,int,int,int); int stand(int,int,int,int); int strike(int); int wall(); int weeks(int); "
            + "int who(int,int); long namings(int,int); long share(int,int,int);";
    private static int wrong = 0;

    private static void hold(boolean good, String what) {
        if (!good) {
            wrong++;
            System.out.println("does not hold: " + what);
        }
    }

    public static void main(String[] args) throws IOException, ReflectiveOperationException {
        face();
        anyArguments();
        room();
        source(Files.readString(Path.of("src/main/java/StonesAlike.java")));
        System.out.println("Manners: " + wrong + " wrong");
        if (wrong != 0) {
            System.exit(1);
        }
    }

    private static void face() {
        Class<?> c = StonesAlike.class;
        TreeSet<String> methods = new TreeSet<>();
        TreeSet<String> names = new TreeSet<>();
        for (Method m : c.getDeclaredMethods()) {
            if (Modifier.isPublic(m.getModifiers())) {
                String types = String.join(",", Arrays.stream(m.getParameterTypes()).map(Class::getName).toList());
                methods.add(m.getReturnType() + " " + m.getName() + "(" + types + ");");
                names.add(m.getName());
                hold(!Modifier.isStatic(m.getModifiers()), m + " is of an object");
            }
        }
        hold(String.join(" ", methods).equals(FACE), "the public methods are the document's, not " + methods);
        for (Method m : c.getDeclaredMethods()) {
            boolean shown = Modifier.isPublic(m.getModifiers());
            hold(shown || Modifier.isPrivate(m.getModifiers()), m + " is public or private");
            hold(shown || !names.contains(m.getName()), m + " bears no public name");
        }
        for (Field f : c.getDeclaredFields()) {
            hold(Modifier.isPrivate(f.getModifiers()) || f.getName().equals("NONE"), f + " is private");
        }
        for (Constructor<?> k : c.getDeclaredConstructors()) {
            hold(Modifier.isPublic(k.getModifiers()) && k.getParameterCount() == 0, k + " is the document's");
        }
        hold(Modifier.isFinal(c.getModifiers()) && Modifier.isPublic(c.getModifiers()), "the class is public and final");
        hold(StonesAlike.NONE == -1, "NONE is -1");
        for (Class<?> inside : c.getDeclaredClasses()) {
            hold(Modifier.isStatic(inside.getModifiers()), inside + " is static");
            for (Method m : inside.getDeclaredMethods()) {
                hold(!names.contains(m.getName()), m + " bears no public name");
            }
        }
        hold(c.getDeclaredClasses().length < 12, "twelve classes at the most");
    }

    /** Any numbers, wild and tame, for 512 calls an object: nothing is thrown but by look. */
    private static void anyArguments() throws ReflectiveOperationException {
        Random dice = new Random(7);
        Method[] face = Arrays.stream(StonesAlike.class.getDeclaredMethods())
                .filter(m -> Modifier.isPublic(m.getModifiers())).sorted((a, b) -> a.getName().compareTo(b.getName())).toArray(Method[]::new);
        int[] wild = {Integer.MIN_VALUE, Integer.MAX_VALUE, -1, -2, 1 << 30, 31, 32, 64, 90, 91, 255, 256, 400, 401, 999, 1000, 9999, 10000};
        int[] textSigns = {'m', 'a', 'y', ' ', ';', '1', '9', ',', '.', 'b', 255, 0, 10};
        for (int run = 0; run < 1500; run++) {
            StonesAlike x = new StonesAlike();
            for (int call = 0; call < 512; call++) {
                Method m = face[dice.nextInt(face.length)];
                Object[] given = new Object[m.getParameterCount()];
                for (int i = 0; i < given.length; i++) {
                    int tame = dice.nextInt(dice.nextBoolean() ? 4 : 30);
                    given[i] = dice.nextInt(12) == 0 ? wild[dice.nextInt(wild.length)] : tame;
                    if (m.getName().equals("feed")) {
                        int four = 0;
                        for (int k = 0; k < 4; k++) {
                            four = four << 8 | textSigns[dice.nextInt(textSigns.length)];
                        }
                        given[i] = four;
                    }
                }
                try {
                    m.invoke(x, given);
                } catch (java.lang.reflect.InvocationTargetException e) {
                    Class<?> thrown = e.getCause().getClass();
                    boolean due = m.getName().equals("look")
                            && (thrown == IndexOutOfBoundsException.class || thrown == NoSuchElementException.class);
                    hold(due, m.getName() + Arrays.toString(given) + " threw " + e.getCause());
                }
            }
        }
    }

    /** The fullest state: fourteen men, ten bodies, ninety notes, eight fields, twelve proofs. */
    private static StonesAlike full() {
        StonesAlike x = new StonesAlike();
        feedText(x, "may near 7;".repeat(11) + "sure disc 4 button boots teeth 8 near 0;");
        x.charter(11 * 11 + 40);
        x.land(5, 5);
        for (int i = 0; i < 20; i++) {
            x.stand(i % 6, i, 0, 999);
        }
        for (int i = 0; i < 14; i++) {
            x.man(i % 6, i * 700, i, i % 10, i);
        }
        for (int i = 0; i < 10; i++) {
            x.body(i);
        }
        for (int i = 10; i < 90; i++) {
            x.strike(i - 1);
        }
        for (int i = 0; i < 8; i++) {
            x.field(10 + i);
            x.kin(i, i, 9);
        }
        return x;
    }

    private static void feedText(StonesAlike x, String text) {
        for (int from = 0; from < text.length(); from += 20) {
            int[] v = new int[5];
            for (int k = 0; k < 20; k++) {
                v[k / 4] = v[k / 4] << 8 | (from + k < text.length() ? text.charAt(from + k) : ' ');
            }
            x.feed(v[0], v[1], v[2], v[3], v[4]);
        }
    }

    private static long dearCalls(StonesAlike x, int times) {
        long sum = 0;
        for (int i = 0; i < times; i++) {
            sum += x.namings(10, 1) + x.namings(90, 0) + x.missing(90) + x.share(90, 24, 0) + x.likely(90) + x.who(90, 3)
                    + x.next(90, 1) + x.fits(90, 2, 3) + x.plan(9) + x.judge(i) + x.weeks(10) + x.wall()
                    + x.feed(0x6d617920, 0x626f6f74, 0x733b2020, 0, 0) + x.charter(12)
                    + x.feed(0x6d617920, 0x626f6f74, 0x732c2061, 0, 0) + x.letter(12);
        }
        return sum;
    }

    private static void room() {
        if (!(ManagementFactory.getThreadMXBean() instanceof com.sun.management.ThreadMXBean threads)
                || !threads.isThreadAllocatedMemorySupported()) {
            return;
        }
        StonesAlike x = full();
        hold(x.count(3) == 90 && x.count(0) == 14 && x.count(2) == 10 && x.count(6) == 12, "the state is full");
        dearCalls(x, 2);
        long me = Thread.currentThread().getId();
        long before = threads.getThreadAllocatedBytes(me);
        long empty = threads.getThreadAllocatedBytes(me) - before;
        before = threads.getThreadAllocatedBytes(me);
        dearCalls(x, 30);
        long used = threads.getThreadAllocatedBytes(me) - before - empty;
        hold(used < 4096, "calls make no objects, but " + used + " bytes were taken");
        before = threads.getThreadAllocatedBytes(me);
        StonesAlike y = new StonesAlike();
        used = threads.getThreadAllocatedBytes(me) - before - empty;
        hold(used < 32768 && y.wall() == 0, "an object is small, but " + used + " bytes were taken");
    }

    private static void source(String text) {
        for (String barred : new String[] {"->", "::", "catch", "finally", "synchronized", "assert ", "Exact(", "lambda", "protected", "\t", ".equals(", "hashCode", "System."}) {
            hold(!text.contains(barred), "the source has no '" + barred + "'");
        }
        hold(text.chars().allMatch(sign -> sign == 10 || sign >= 32 && sign < 127), "the source has plain signs alone");
        hold(text.lines().filter(line -> line.startsWith("import")).toList().equals(java.util.List.of("import java.util.NoSuchElementException;")),
                "the source imports one class");
        int length = 0;
        for (String line : text.lines().toList()) {
            boolean opens = line.matches(" {4,8}[A-Za-z].*\\(.*\\).*\\{");
            length = opens ? 0 : length + 1;
            hold(length < 60 || !line.matches(" {4,8}\\}"), "a method has sixty lines at the most, up to '" + line + "'");
            hold(!opens || line.chars().filter(sign -> sign == ',').count() < 7, "seven parameters at the most: " + line);
        }
    }
}
