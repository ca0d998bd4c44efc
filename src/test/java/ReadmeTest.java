import java.io.IOException;
import java.lang.reflect.Method;
import java.lang.reflect.Modifier;
import java.nio.file.Files;
import java.nio.file.Path;
import java.util.regex.Matcher;
import java.util.regex.Pattern;

/** The calls that README.md shows, each with the answer that stands beside it. */
public final class ReadmeTest extends Checks {
    private static final Pattern BLOCK = Pattern.compile("```(text|java)\n(.*?)```", Pattern.DOTALL);
    private static final Pattern CALL =
        Pattern.compile("clock\\.(\\w+)\\((.*?)\\);\\s*// (-?\\d+|true|false)\\b.*");

    public static void main(String[] args) throws IOException, ReflectiveOperationException {
        String readme = Files.readString(Path.of("README.md"));
        namesAllMethods(readme);
        callsAll(readme);
        tellAll();
    }

    private static void namesAllMethods(String readme) {
        for (Method method : OneClock.class.getDeclaredMethods()) {
            boolean isNamed = readme.contains("`" + method.getName() + "`");
            due("README names " + method.getName(), isNamed || !Modifier.isPublic(method.getModifiers()), true);
        }
    }

    /** The first block of calls leaves an empty tape; on it comes the text for all behind that. */
    private static void callsAll(String readme) throws ReflectiveOperationException {
        OneClock clock = new OneClock();
        String text = "";
        int calls = 0;
        Matcher block = BLOCK.matcher(readme);
        while (block.find()) {
            if (block.group(1).equals("text")) {
                text = block.group(2);
                continue;
            }
            if (calls > 0) {
                Tapes.feed(clock, text);
            }
            for (String line : block.group(2).split("\n")) {
                callOne(clock, line);
                calls++;
            }
        }
        due("README shows calls", calls > 20, true);
    }

    private static void callOne(OneClock clock, String line) throws ReflectiveOperationException {
        Matcher call = CALL.matcher(line);
        if (!call.matches()) {
            due("read as a call: " + line, false, true);
            return;
        }
        String[] given = call.group(2).isEmpty() ? new String[0] : call.group(2).split(", ");
        Object[] numbers = new Object[given.length];
        Class<?>[] types = new Class<?>[given.length];
        for (int k = 0; k < given.length; k++) {
            numbers[k] = Integer.decode(given[k]);
            types[k] = int.class;
        }
        Object got = OneClock.class.getMethod(call.group(1), types).invoke(clock, numbers);
        due(line + " (it answered " + got + ")", got.toString().equals(call.group(3)), true);
    }
}
