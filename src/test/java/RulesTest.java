import java.lang.reflect.Constructor;
import java.lang.reflect.Field;
import java.lang.reflect.InvocationTargetException;
import java.lang.reflect.Method;
import java.lang.reflect.Modifier;
import java.nio.charset.StandardCharsets;
import java.nio.file.Files;
import java.nio.file.Path;
import java.util.ArrayList;
import java.util.List;
import java.util.TreeSet;
import java.util.regex.Matcher;
import java.util.regex.Pattern;

/** The face, the part of Java that LANGUAGE.md leaves, and that no call throws, whatever it is told. */
public final class RulesTest {

    private static final String FACE =
        "int count(int);int feed(int,int,int,int,int,int);int text();int force(int);int asks(int,int,int,int);"
        + "long means(int,int);int pairs(int);int speaker(int,int);int turn(int,int,int);int told(int,int);"
        + "int say(int,int,int);int unsay();int said(int,int);long worlds();int behind(int,int);int cannot();"
        + "int lies();int least(int);int mad(int);long habit(int,int,int);int kinds(int,int);int ask(int);"
        + "int two(int);long parts(int,int,int);int hide(int,int,int);int same(int,int,int);int claims(int);"
        + "int settle(int);long thrice(int,int,int);int many(int);int judge(int,int);int film(int);int drawn(int);"
        + "long mean(int,int,int);int image();int back();int sheet(int,int,int);int cell(int,int,int);"
        + "int copy(int,int,int,int,int);int sayingsBy(int,int,int,int);int taken(int,int)";

    private static int wrong = 0;
    private static int checks = 0;

    private static void right(String what, boolean is) {
        checks++;
        if (is) return;
        wrong++;
        System.out.println(what);
    }

    private static String signature(Method method) {
        StringBuilder found = new StringBuilder(method.getReturnType() + " " + method.getName() + "(");
        for (Class<?> type : method.getParameterTypes()) {
            if (found.charAt(found.length() - 1) != '(') found.append(',');
            found.append(type);
        }
        return found.append(')').toString();
    }

    private static boolean isOpen(int modifiers) {
        return !Modifier.isPrivate(modifiers);
    }

    private static void face() {
        TreeSet<String> due = new TreeSet<>(List.of(FACE.split(";")));
        TreeSet<String> got = new TreeSet<>();
        TreeSet<String> names = new TreeSet<>();
        for (Method method : SaidTwice.class.getDeclaredMethods()) {
            if (Modifier.isPublic(method.getModifiers())) {
                got.add(signature(method));
                names.add(method.getName());
            } else {
                right("neither public nor private: " + method, Modifier.isPrivate(method.getModifiers()));
            }
        }
        right("the face is " + got, got.equals(due));
        List<Class<?>> all = new ArrayList<>(List.of(SaidTwice.class.getDeclaredClasses()));
        all.add(SaidTwice.class);
        right("too many classes", all.size() <= 12);
        for (Class<?> one : all) {
            for (Method method : one.getDeclaredMethods()) {
                boolean isOwn = one != SaidTwice.class || !Modifier.isPublic(method.getModifiers());
                right("a name of the face: " + method, !isOwn || !names.contains(method.getName()));
                right("more than seven parameters: " + method, method.getParameterCount() <= 7);
            }
            fields(one);
        }
        for (Constructor<?> made : SaidTwice.class.getDeclaredConstructors()) {
            right("constructor " + made, made.getParameterCount() == 0 && Modifier.isPublic(made.getModifiers()));
        }
        right("public and final", Modifier.isPublic(SaidTwice.class.getModifiers()) && Modifier.isFinal(SaidTwice.class.getModifiers()));
    }

    private static void fields(Class<?> one) {
        int own = 0;
        for (Field field : one.getDeclaredFields()) {
            boolean isStatic = Modifier.isStatic(field.getModifiers());
            if (!isStatic) own++;
            right("static, not final: " + field, !isStatic || Modifier.isFinal(field.getModifiers()));
            boolean isConstant = List.of("NONE", "BAD", "STATE", "FULL", "NO").contains(field.getName());
            right("not private: " + field, isConstant || !isOpen(field.getModifiers()));
        }
        right("too many fields: " + one, own <= 20);
        right("a class inside: " + one, one == SaidTwice.class || Modifier.isStatic(one.getModifiers()) && !Modifier.isPublic(one.getModifiers()));
    }

    private static void constants() {
        right("NONE", SaidTwice.NONE == -1);
        right("BAD", SaidTwice.BAD == -2);
        right("STATE", SaidTwice.STATE == -3);
        right("FULL", SaidTwice.FULL == -4);
        right("NO", SaidTwice.NO == -4611686018427387904L);
    }

    private static final String[] FORBIDDEN = {"\\bimport\\b", "\\bpackage\\b", "\\btry\\b", "\\bcatch\\b", "\\bfinally\\b",
        "\\bthrows?\\b", "\\bassert\\b", "\\bsynchronized\\b", "\\bvolatile\\b", "\\bnative\\b", "\\bwhile\\b", "->", "::",
        "\\bSystem\\b", "\\bThread\\b", "\\bdouble\\b", "\\bfloat\\b", "Exact\\b", "\\binstanceof\\b", "\\bstatic \\{"};

    private static String withoutComments(String source) {
        return source.replaceAll("(?s)/\\*.*?\\*/", "").replaceAll("//[^\n]*", "");
    }

    private static void source() throws Exception {
        String whole = new String(Files.readAllBytes(Path.of("src/main/java/SaidTwice.java")), StandardCharsets.ISO_8859_1);
        right("signs beyond 127", whole.chars().allMatch(sign -> sign < 128));
        String source = withoutComments(whole);
        for (String word : FORBIDDEN) right("forbidden: " + word, !Pattern.compile(word).matcher(source).find());
        int made = 0;
        for (String line : source.split("\n")) {
            String code = line.trim();
            if (Pattern.compile("[A-Za-z)\\]]\\[[^\\]]").matcher(code.replaceAll("new int\\[", "")).find()) {
                boolean isGuarded = code.contains("i >= 0 && i < row.length");
                right("an index that is not looked at: " + code, isGuarded);
            }
            if (code.contains("new ")) {
                made++;
                right("made elsewhere: " + code, code.startsWith("private final int[]") || code.matches("[a-z]+ = new [A-Za-z]+\\(.*\\);"));
            }
        }
        right("nothing is made", made > 0);
        lengths(source);
    }

    private static void lengths(String source) {
        Matcher heads = Pattern.compile("\n( {4,8})(?:public|private)[^;=\n]*\\([^;\n]*\\) \\{\n").matcher(source);
        int methods = 0;
        while (heads.find()) {
            methods++;
            int end = source.indexOf("\n" + heads.group(1) + "}", heads.end());
            long lines = source.substring(heads.end(), Math.max(heads.end(), end)).lines().count();
            right("too long: " + heads.group().trim(), end > 0 && lines <= 40);
        }
        right("methods were not found", methods > 80);
    }

    private static final int[] EXTREMES = {Integer.MIN_VALUE, Integer.MIN_VALUE + 1, -65536, -100, -3, -2, -1, 0, 1, 2, 3, 4, 5,
        6, 7, 11, 12, 13, 16, 17, 31, 32, 39, 40, 41, 255, 256, 99999, 100000, 1 << 30, Integer.MAX_VALUE - 1, Integer.MAX_VALUE};

    private static long state = 1;

    private static int below(int bound) {
        state = state * 6364136223846793005L + 1442695040888963407L;
        return (int) ((state >>> 33) % bound);
    }

    private static void call(SaidTwice x, Method method) throws Exception {
        Object[] told = new Object[method.getParameterCount()];
        for (int i = 0; i < told.length; i++) {
            told[i] = below(3) == 0 ? EXTREMES[below(EXTREMES.length)] : below(4) == 0 ? 40 + below(80) : below(6);
        }
        checks++;
        try {
            method.invoke(x, told);
        } catch (InvocationTargetException thrown) {
            right(method.getName() + List.of(told) + " threw " + thrown.getCause(), false);
        }
    }

    private static void extremes() throws Exception {
        List<Method> face = new ArrayList<>();
        for (Method method : SaidTwice.class.getDeclaredMethods()) {
            if (Modifier.isPublic(method.getModifiers())) face.add(method);
        }
        face.sort((one, other) -> one.getName().compareTo(other.getName()));
        for (int run = 0; run < 300 && wrong < 20; run++) {
            SaidTwice x = new SaidTwice();
            for (int s = 0; s < run % 6; s++) x.speaker((s + run) % 6, s);
            for (int calls = 0; calls < 500; calls++) call(x, face.get(below(face.size())));
        }
    }

    private static void longTape(String tape) {
        SaidTwice x = new SaidTwice();
        for (int i = 0; i < tape.length() && i < 160; i++) x.feed(1, tape.charAt(i), 0, 0, 0, 0);
        int answer = x.text();
        right("a tape of 160 answered " + answer, answer == 1 || answer <= -100 && answer >= -260);
    }

    private static void longTapes() {
        String[] some = {"(", "-", "not ", "a+", "1*", "a and ", "9", "z", ";", " ", "once ", "(a+(a+(a+(a+(a+", "a<b or "};
        for (String one : some) {
            longTape(one.repeat(160));
            longTape("once " + one.repeat(160));
        }
        StringBuilder longest = new StringBuilder("once a");
        while (longest.length() < 141) longest.append("+a");
        longTape(longest.append(";twice 0;costs 9;").toString());
    }

    public static void main(String[] arguments) throws Exception {
        face();
        constants();
        source();
        extremes();
        longTapes();
        System.out.println("rules: " + checks + " checks, " + wrong + " not as due");
        if (wrong != 0) System.exit(1);
    }
}
