import java.lang.management.ManagementFactory;
import java.lang.reflect.Field;
import java.lang.reflect.InvocationTargetException;
import java.lang.reflect.Method;
import java.lang.reflect.Modifier;
import java.nio.file.Files;
import java.nio.file.Path;
import java.util.ArrayList;
import java.util.List;
import java.util.Random;
import java.util.TreeSet;
import java.util.regex.Matcher;
import java.util.regex.Pattern;

/** The face, what LANGUAGE.md rules out, that no call throws, and that no call makes an object. */
final class LanguageTest {
    private static final String FACE = "write(int) erase() fault() land() place(int,int) road(int,int) "
            + "cart(int,int) as(int,int) roadAs(int,int) price(int) fill(int,int) go(int,int) rest(int,int) "
            + "join(int,int) store(int) take(int,int) sell(int) undo() keep(int) back(int) comes(int,int,int) "
            + "straw(int,int,int,int) meet(int,int,int,int) taker(int) dismiss() left(int,int,int) "
            + "drip(int,int,int) seal(int,int,int,int) rent(int,int,int) around(int,int,int) put(int) wipe() "
            + "pass(int,int) winds(int,int,int,int) count(int)";

    public static void main(String[] args) throws Exception {
        face();
        source(Files.readString(Path.of("src/main/java/SnowCourse.java")));
        noCallThrows();
        noCallMakesAnObject();
        Check.end();
    }

    private static String signature(Method method) {
        StringBuilder text = new StringBuilder(method.getName()).append('(');
        for (Class<?> type : method.getParameterTypes()) {
            text.append(text.charAt(text.length() - 1) == '(' ? "" : ",").append(type.getName());
        }
        return text.append(')').toString();
    }

    private static List<Method> calls() {
        List<Method> calls = new ArrayList<>();
        for (Method method : SnowCourse.class.getDeclaredMethods()) {
            if (!Modifier.isPrivate(method.getModifiers())) {
                calls.add(method);
            }
        }
        calls.sort((a, b) -> signature(a).compareTo(signature(b)));
        return calls;
    }

    private static void face() {
        TreeSet<String> want = new TreeSet<>(List.of(FACE.split(" ")));
        TreeSet<String> got = new TreeSet<>();
        for (Method method : calls()) {
            got.add(signature(method));
            Check.due("public " + signature(method), Modifier.isPublic(method.getModifiers()) ? 1 : 0, 1);
            Class<?> answer = method.getName().equals("seal") ? long.class : int.class;
            Check.due("answer of " + signature(method), method.getReturnType() == answer ? 1 : 0, 1);
        }
        Check.due("the face " + got, got.equals(want) ? 1 : 0, 1);
        int constants = 0;
        for (Field field : SnowCourse.class.getDeclaredFields()) {
            if (!Modifier.isPrivate(field.getModifiers())) {
                constants++;
            }
        }
        Check.due("constants", constants, 5);
        namesApart(SnowCourse.class);
        for (Class<?> inside : SnowCourse.class.getDeclaredClasses()) {
            namesApart(inside);
            Check.due("static " + inside.getName(), Modifier.isStatic(inside.getModifiers()) ? 1 : 0, 1);
            int fields = 0;
            for (Field field : inside.getDeclaredFields()) {
                fields += Modifier.isStatic(field.getModifiers()) ? 0 : 1;
                boolean loose = Modifier.isStatic(field.getModifiers()) && !Modifier.isFinal(field.getModifiers());
                Check.due("static and not final: " + field, loose ? 1 : 0, 0);
            }
            Check.due("fields of " + inside.getName() + " beyond 20", Math.max(fields, 20), 20);
        }
        Check.due("classes beyond 12", Math.max(SnowCourse.class.getDeclaredClasses().length, 12), 12);
    }

    /** No method but the public ones themselves bears the name of a public one, in the classes inside either. */
    private static void namesApart(Class<?> home) {
        for (Method method : home.getDeclaredMethods()) {
            boolean ofTheFace = home == SnowCourse.class && Modifier.isPublic(method.getModifiers());
            boolean likeOne = !ofTheFace && FACE.matches("(.* )?" + method.getName() + "\\(.*");
            Check.due("named like a public one: " + method, likeOne ? 1 : 0, 0);
        }
    }

    private static void source(String source) {
        String code = Pattern.compile("/\\*.*?\\*/|//[^\\n]*", Pattern.DOTALL).matcher(source).replaceAll("");
        String[] ruledOut = {
            "throw", "throws", "try", "catch", "finally", "synchronized", "assert", "static\\s*\\{", "->", "::",
            "double", "float", "Random", "System\\.(?!arraycopy)", "Thread", "\\w+Exact", "hashCode", "toString",
            "while\\s*\\(true\\)", "for\\s*\\(;;\\)", "null"
        };
        for (String word : ruledOut) {
            Matcher found = Pattern.compile(Character.isLetter(word.charAt(0)) ? "\\b" + word : word).matcher(code);
            Check.due("ruled out: " + word, found.find() ? 1 : 0, 0);
        }
        Matcher imports = Pattern.compile("import ([^;]+);").matcher(code);
        while (imports.find()) {
            Check.due("import " + imports.group(1), imports.group(1).equals("java.util.Arrays") ? 1 : 0, 1);
        }
        Check.due("signs above 127", source.chars().filter(sign -> sign > 127).count(), 0);
        lengths(code);
    }

    /** Methods of some sixty lines and seven parameters at most. */
    private static void lengths(String code) {
        Matcher heads = Pattern.compile("\\n( {4}| {8})[a-z][\\w\\[\\] ]* \\w+\\(([^)]*)\\) \\{").matcher(code);
        int methods = 0;
        while (heads.find()) {
            methods++;
            int end = code.indexOf("\n" + heads.group(1) + "}", heads.end());
            int lines = code.substring(heads.end(), end).split("\n").length;
            Check.due("lines beyond 60: " + heads.group().trim(), Math.max(lines, 60), 60);
            Check.due("parameters beyond 7: " + heads.group().trim(), Math.max(heads.group(2).split(",").length, 7), 7);
        }
        Check.due("methods that were looked at, 80 at least", Math.min(methods, 80), 80);
    }

    private static final String FULL_COUNTRY = "mountain;cellar;city;crossing;road 0 1 1;shaded 1 2 2;bandits 0 2 3;"
            + "road 2 3 1;cart 0 0;old 0 1;stamped 0 3;cart 1 2;warm 3;warm 12";

    private static SnowCourse someCountry() {
        return Check.told(FULL_COUNTRY);
    }

    private static void noCallThrows() throws IllegalAccessException {
        int[] odd = {Integer.MIN_VALUE, Integer.MAX_VALUE, -6, -1, 99, 100, 999, 1000, 48, 49, 9999, 255, 256, 65536};
        Random dice = new Random(5);
        List<Method> calls = calls();
        for (int run = 0; run < 400; run++) {
            SnowCourse x = run % 4 == 0 ? new SnowCourse() : someCountry();
            for (int i = 0; i < 300; i++) {
                Method call = calls.get(dice.nextInt(calls.size()));
                Object[] values = new Object[call.getParameterCount()];
                for (int k = 0; k < values.length; k++) {
                    values[k] = dice.nextInt(4) == 0 ? odd[dice.nextInt(odd.length)] : dice.nextInt(6);
                }
                answer(x, call, values);
            }
        }
    }

    private static void answer(SnowCourse x, Method call, Object[] values) throws IllegalAccessException {
        try {
            Object got = call.invoke(x, values);
            Check.due(call.getName() + " below FULL", Math.min(((Number) got).longValue(), -5), -5);
        } catch (InvocationTargetException thrown) {
            Check.due(call.getName() + List.of(values) + " threw " + thrown.getCause(), 1, 0);
        }
    }

    /** All rows are made by the constructor, so the room that a run fills does not grow by its calls. */
    private static void noCallMakesAnObject() {
        com.sun.management.ThreadMXBean room = (com.sun.management.ThreadMXBean) ManagementFactory.getThreadMXBean();
        dearCalls(someCountry());
        SnowCourse x = someCountry();
        long before = room.getCurrentThreadAllocatedBytes();
        long nothing = room.getCurrentThreadAllocatedBytes() - before;
        before = room.getCurrentThreadAllocatedBytes();
        dearCalls(x);
        long made = room.getCurrentThreadAllocatedBytes() - before - nothing;
        // The machine itself may make some bytes beside; a single row of Reach would be 5,600 a call.
        Check.due("bytes that 400 calls made: " + made, made / 4096, 0);
    }

    private static void dearCalls(SnowCourse x) {
        for (int i = 0; i < 10; i++) {
            for (int k = 0; k < 20; k++) {
                x.write("mountain;road 4 0 3;".charAt(k));
            }
            x.fault();
            x.land();
            x.erase();
            x.fill(0, 3);
            x.go(0, 0);
            x.store(0);
            x.undo();
            x.keep(0);
            x.back(0);
            x.comes(0, 2, 0);
            x.straw(1, 2, 90, 48);
            x.meet(0, 2, 2, 0);
            x.taker(4);
            x.left(60, 4, 0);
            x.drip(1, 2, 3);
            x.seal(99, 6, 4, 0);
            x.rent(1, 0, 2);
            x.around(0, 3, 2);
            x.put(20);
            x.pass(7, 3);
            x.winds(77, 24, 99, 1);
        }
    }
}
