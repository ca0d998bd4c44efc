import java.io.IOException;
import java.lang.reflect.Constructor;
import java.lang.reflect.Field;
import java.lang.reflect.Method;
import java.lang.reflect.Modifier;
import java.nio.file.Files;
import java.nio.file.Path;
import java.util.ArrayList;
import java.util.Arrays;
import java.util.HashSet;
import java.util.List;
import java.util.Set;
import java.util.TreeSet;
import java.util.regex.Matcher;
import java.util.regex.Pattern;

/** Those rules of LANGUAGE.md that can be looked up in the file or on the compiled class. */
public final class LanguageTest {
    private static final String FACE = "agreed(int,int,int,int,int) back(int) begins(int) best(int) bestAt(int,int) "
        + "bestRule(int) board(int,int) count(int) drop(int) dropBest(int,int,int) feed(int,int,int,int,int) fits(int) "
        + "forget() haste(int,int,int) hold(int) move(int,int) offer(int) offerBest(int,int,int) pause(int) place() "
        + "read() restore(int) rule(int,int,int) seatAt(int,int,int) seats(int,int) shared(int,int,int) "
        + "spare(int,int,int) sum() tell(int,int) undo()";
    private static int wrong = 0;

    private static void must(boolean holds, String what) {
        if (!holds) {
            wrong++;
            System.out.println("not so: " + what);
        }
    }

    public static void main(String[] args) throws IOException {
        String source = Files.readString(Path.of("src/main/java/OneClock.java"));
        must(source.chars().allMatch(c -> c == '\n' || c >= 32 && c < 127), "signs of the file are plain");
        words(source);
        lengths(source);
        face();
        classes(source);
        System.out.println("language: " + wrong + " wrong");
        if (wrong > 0) {
            System.exit(1);
        }
    }

    private static String withoutComments(String source) {
        String code = source.replaceAll("(?s)/\\*.*?\\*/", "").replaceAll("//[^\n]*", "");
        return code.replaceAll("\"[^\"]*\"", "\"\"").replaceAll("'[^']+'", "' '");
    }

    private static void words(String source) {
        String code = withoutComments(source);
        for (String word : List.of("throw", "throws", "try", "catch", "finally", "synchronized", "assert", "import",
            "package", "protected", "instanceof", "extends", "implements", "volatile", "native", "double", "float")) {
            must(!Pattern.compile("\\b" + word + "\\b").matcher(code).find(), "no word " + word);
        }
        must(!code.contains("->") && !code.contains("::") && !code.contains("Exact("), "no lambda, no ..Exact");
        Matcher library = Pattern.compile("\\b([A-Z][a-z]\\w*)\\.(\\w+)\\(").matcher(code);
        Set<String> allowed = Set.of("Math.max", "Math.min", "Math.abs", "System.arraycopy", "Integer.bitCount");
        while (library.find()) {
            must(allowed.contains(library.group(1) + "." + library.group(2)), "library has " + library.group());
        }
    }

    /** Methods of sixty lines at most, and things made in no method but a constructor. */
    private static void lengths(String source) {
        String[] lines = source.split("\n");
        int start = -1;
        String indent = "";
        String head = "";
        for (int k = 0; k < lines.length; k++) {
            Matcher method = Pattern.compile("^((?: {4}){1,2})(?:[a-z]+ )*\\w+(?:\\[\\])?\\(?.*\\) \\{$").matcher(lines[k]);
            if (start < 0 && method.matches()) {
                start = k;
                indent = method.group(1);
                head = lines[k].trim();
            } else if (start >= 0 && lines[k].equals(indent + "}")) {
                must(k - start < 60, "short: " + head);
                start = -1;
            } else if (start >= 0 && lines[k].contains("new ")) {
                must(head.matches("(public )?[A-Z]\\w*\\(.*"), "makes nothing: " + head);
            }
        }
        must(start < 0, "each method was looked at");
    }

    private static String signature(Method method) {
        List<String> types = new ArrayList<>();
        for (Class<?> type : method.getParameterTypes()) {
            types.add(type.getName());
        }
        return method.getName() + "(" + String.join(",", types) + ")";
    }

    private static void face() {
        Set<String> face = new TreeSet<>();
        Set<String> names = new HashSet<>();
        for (Method method : OneClock.class.getDeclaredMethods()) {
            if (!Modifier.isPrivate(method.getModifiers())) {
                must(Modifier.isPublic(method.getModifiers()), "public: " + method);
                boolean tells = Set.of("drop", "undo", "hold", "restore").contains(method.getName());
                must(method.getReturnType() == (tells ? boolean.class : int.class), "what it answers: " + method);
                face.add(signature(method));
                names.add(method.getName());
            }
        }
        must(face.equals(new TreeSet<>(Arrays.asList(FACE.split(" ")))), "the face is the document's: " + face);
        for (Class<?> type : types()) {
            for (Method method : type.getDeclaredMethods()) {
                must(type == OneClock.class && !Modifier.isPrivate(method.getModifiers())
                    || !names.contains(method.getName()), "no public one's name: " + method);
            }
        }
        Constructor<?>[] constructors = OneClock.class.getConstructors();
        must(constructors.length == 1 && constructors[0].getParameterCount() == 0, "one public constructor");
        must(OneClock.class.getDeclaredConstructors().length == 1, "no other constructor");
        for (Field field : OneClock.class.getDeclaredFields()) {
            must(field.getName().equals("NONE") || Modifier.isPrivate(field.getModifiers()), "private: " + field);
        }
        must(Modifier.isFinal(OneClock.class.getModifiers()), "the class is final");
        must(OneClock.NONE == -1, "NONE");
    }

    private static List<Class<?>> types() {
        List<Class<?>> types = new ArrayList<>(Arrays.asList(OneClock.class.getDeclaredClasses()));
        types.add(OneClock.class);
        return types;
    }

    private static void classes(String source) {
        must(types().size() <= 12, "twelve classes at most");
        for (Class<?> type : types()) {
            int fields = 0;
            for (Field field : type.getDeclaredFields()) {
                boolean isStatic = Modifier.isStatic(field.getModifiers());
                must(!isStatic || Modifier.isFinal(field.getModifiers()), "static is final: " + field);
                fields += isStatic ? 0 : 1;
            }
            must(fields <= 20, "twenty fields at most: " + type);
            must(type == OneClock.class || Modifier.isStatic(type.getModifiers()), "static: " + type);
            for (Method method : type.getDeclaredMethods()) {
                must(method.getParameterCount() <= 7, "seven parameters at most: " + method);
            }
        }
    }
}
