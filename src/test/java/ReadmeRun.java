import java.io.IOException;
import java.lang.reflect.InvocationTargetException;
import java.lang.reflect.Method;
import java.lang.reflect.Modifier;
import java.nio.file.Files;
import java.nio.file.Path;
import java.util.TreeMap;
import java.util.TreeSet;
import java.util.regex.Matcher;
import java.util.regex.Pattern;

/** Makes the calls that stand in README.md, on one object and in their order: each must answer what stands behind it. */
public final class ReadmeRun {
    private static final Pattern ROW = Pattern.compile("x\\.([a-z]+)\\(([^)]*)\\);\\s*// = (-?[0-9]+|true|false)(:.*)?");

    public static void main(String[] args) throws IOException, ReflectiveOperationException {
        TreeMap<String, Method> face = new TreeMap<>();
        for (Method m : StonesAlike.class.getDeclaredMethods()) {
            if (Modifier.isPublic(m.getModifiers())) {
                face.put(m.getName(), m);
            }
        }
        TreeSet<String> unused = new TreeSet<>(face.keySet());
        StonesAlike x = new StonesAlike();
        int calls = 0;
        int wrong = 0;
        for (String line : Files.readAllLines(Path.of("README.md"))) {
            if (line.startsWith("x.")) {
                Matcher row = ROW.matcher(line);
                String got = row.matches() ? answer(x, face.get(row.group(1)), row.group(2)) : "nothing: it is no row of a call";
                calls++;
                if (!row.matches() || !got.equals(row.group(3))) {
                    wrong++;
                    System.out.println(line + " -- answered " + got);
                }
                unused.remove(row.matches() ? row.group(1) : "");
            }
        }
        for (String name : unused) {
            wrong++;
            System.out.println("README.md has no call of " + name);
        }
        System.out.println("ReadmeRun: " + calls + " calls, " + wrong + " wrong");
        if (wrong != 0) {
            System.exit(1);
        }
    }

    private static String answer(StonesAlike x, Method call, String given) throws IllegalAccessException {
        String[] numbers = given.isEmpty() ? new String[0] : given.split(", ");
        if (call == null || call.getParameterCount() != numbers.length) {
            return "nothing: there is no such call";
        }
        Object[] values = new Object[numbers.length];
        for (int i = 0; i < numbers.length; i++) {
            values[i] = (int) (long) Long.decode(numbers[i]);
        }
        try {
            return String.valueOf(call.invoke(x, values));
        } catch (InvocationTargetException e) {
            return e.getCause().toString();
        }
    }
}
