import com.sun.management.ThreadMXBean;
import java.io.IOException;
import java.lang.management.ManagementFactory;
import java.lang.reflect.Constructor;
import java.lang.reflect.Field;
import java.lang.reflect.Method;
import java.lang.reflect.Modifier;
import java.nio.file.Files;
import java.nio.file.Path;
import java.util.ArrayList;
import java.util.Arrays;
import java.util.HashSet;
import java.util.List;
import java.util.Set;
import java.util.TreeSet;
import java.util.regex.Matcher;
import java.util.regex.Pattern;

/** The rules of ../shared/LANGUAGE.md that can be seen from the class and its source. */
public final class LanguageTest {
    private static final String[] FACE = {
        "boolean cell(int,int)", "int pair(int,int)", "int feed(int,int,int,int,int)", "int end(int)", "int text()",
        "int fault(int)", "int goes(int,int,int)", "int tap(int,int)", "int row(int)", "int walk(int)", "int undo()",
        "int of(int,int)", "int fewest(int,int,int,int)", "int tells(int,int,int,int)", "long odds(int,int,int,int,int)",
        "int seen(int,int,int)", "int holds()", "int dark(int,int,int)", "int rider(int)", "int carrier(int)",
        "int wed(int,int,int)", "int crowd(int)", "int chase(int,int,int,int)", "int hunt(int,int,int,int)", "int image()",
        "int back()", "int about(int)"};
    private static final String[] NOT_THESE = {
        "\\bthrows?\\b", "\\btry\\b", "\\bcatch\\b", "\\bsynchronized\\b", "\\bassert\\b", "->", "::", "\\bprotected\\b",
        "Exact\\(", "\\bRandom\\b", "\\bThread\\b", "\\bObject\\b", "\\bvar\\b", "@", "while \\(true\\)", "for \\(;;\\)",
        "\\bSystem\\.(?!arraycopy)", "\\bArrays\\.(?!copyOf|fill)", "\\bMath\\.(?!max|min|abs)", "\\bInteger\\.(?!bitCount)"};
    private static int wrong = 0;

    private static void must(boolean so, String what) {
        if (!so) {
            wrong++;
            System.out.println("LanguageTest: " + what);
        }
    }

    private static String signature(Method m) {
        List<String> types = new ArrayList<>();
        for (Class<?> type : m.getParameterTypes()) types.add(type.getName());
        return m.getReturnType().getName() + " " + m.getName() + "(" + String.join(",", types) + ")";
    }

    private static void face() {
        Class<?> it = OneEyeTwoLegs.class;
        must(it.getModifiers() == (Modifier.PUBLIC | Modifier.FINAL), "rule 1: the class is public and final");
        Set<String> open = new TreeSet<>();
        for (Method m : it.getDeclaredMethods()) {
            if (Modifier.isPrivate(m.getModifiers()) || m.isSynthetic()) continue;
            must(m.getModifiers() == Modifier.PUBLIC, "rule 1: " + m);
            open.add(signature(m));
        }
        must(open.equals(new TreeSet<>(Arrays.asList(FACE))), "rule 1: the face is " + open);
        Constructor<?>[] makers = it.getDeclaredConstructors();
        must(makers.length == 1 && Modifier.isPublic(makers[0].getModifiers()), "rule 1: one public constructor");
        for (Field f : it.getDeclaredFields()) {
            boolean isConstant = f.getName().equals("NONE") || f.getName().equals("SPENT");
            must(isConstant ? f.getModifiers() == (Modifier.PUBLIC | Modifier.STATIC | Modifier.FINAL) && f.getType() == int.class
                : Modifier.isPrivate(f.getModifiers()), "rule 1: " + f);
        }
    }

    private static void classes() {
        List<Class<?>> all = new ArrayList<>(Arrays.asList(OneEyeTwoLegs.class.getDeclaredClasses()));
        Set<String> names = new HashSet<>();
        for (String method : FACE) names.add(method.replaceAll(".* |\\(.*", ""));
        for (Class<?> c : all) {
            must(Modifier.isStatic(c.getModifiers()) && !Modifier.isPublic(c.getModifiers()), "rules 1, 2: " + c);
            must(c.getDeclaredClasses().length == 0, "rule 2: a class within " + c);
            for (Method m : c.getDeclaredMethods()) must(!names.contains(m.getName()), "rule 1: the name of " + m);
        }
        all.add(OneEyeTwoLegs.class);
        must(all.size() <= 12, "rule 11: " + all.size() + " classes");
        for (Class<?> c : all) members(c, names);
    }

    private static void members(Class<?> c, Set<String> names) {
        int fields = 0;
        for (Field f : c.getDeclaredFields()) {
            if (!Modifier.isStatic(f.getModifiers())) fields++;
            else must(Modifier.isFinal(f.getModifiers()) && f.getType().isPrimitive(), "rule 5: " + f);
        }
        must(fields <= 20, "rule 11: " + fields + " fields in " + c);
        for (Method m : c.getDeclaredMethods()) {
            must(m.getParameterCount() <= 7, "rule 11: the parameters of " + m);
            must(!Modifier.isPrivate(m.getModifiers()) || !names.contains(m.getName()), "rule 1: the name of " + m);
            must(!Arrays.asList("equals", "hashCode", "toString").contains(m.getName()), "rule 6: " + m);
        }
    }

    private static void source() throws IOException {
        String all = Files.readString(Path.of("src/main/java/OneEyeTwoLegs.java"));
        String code = all.replaceAll("(?s)/\\*.*?\\*/", "").replaceAll("//[^\n]*", "").replaceAll("\"[^\"\n]*\"", "\"\"");
        for (String not : NOT_THESE) {
            Matcher m = Pattern.compile(not).matcher(code);
            must(!m.find(), "the source has " + not);
        }
        Matcher imports = Pattern.compile("(?m)^import (.*);").matcher(code);
        while (imports.find()) must(imports.group(1).equals("java.util.Arrays"), "rule 4: " + imports.group());
        must(!code.contains("package "), "no package line");
        for (char sign : all.toCharArray()) must(sign == 10 || sign >= 32 && sign < 127, "a sign outside of 32 .. 126");
        lengths(all.split("\n"));
    }

    private static void lengths(String[] lines) {
        for (int from = 0; from < lines.length; from++) {
            if (!lines[from].matches("( {4}| {8})[a-zA-Z].*\\) \\{")) continue;
            String close = lines[from].replaceAll("\\S.*", "") + "}";
            int to = from;
            while (to < lines.length && !lines[to].equals(close)) to++;
            must(to - from <= 60, "rule 11: " + (to - from) + " lines of" + lines[from]);
        }
    }

    private static long bytesMade() {
        return ((ThreadMXBean) ManagementFactory.getThreadMXBean()).getThreadAllocatedBytes(Thread.currentThread().getId());
    }

    /** The room of a run is some 7.3 million elements; no run of 512 calls, however dear, may come near it. */
    private static void room() {
        OneEyeTwoLegs x = new OneEyeTwoLegs(5, 5);
        long before = bytesMade();
        for (int k = 0; k < 4; k++) x.text();
        for (int k = 0; k < 85; k++) {
            x.chase(0, 0, 1, 99);
            x.hunt(0, 99, 1, 0);
            x.fewest(7, 0, 24, OneEyeTwoLegs.NONE);
            x.tells(0, 1, 0, OneEyeTwoLegs.NONE);
            x.wed(0, 0, 0);
            x.crowd(24);
        }
        must(bytesMade() - before < 1000000, "rule 12: dear calls made " + (bytesMade() - before) + " bytes");
        OneEyeTwoLegs y = new OneEyeTwoLegs(5, 5);
        before = bytesMade();
        for (int k = 0; k < 170; k++) {
            y.feed(0x646f6573, 0x20782b79, 0x2b746170, 0x3b202020, 0x20202020);
            y.text();
            y.back();
        }
        must(bytesMade() - before < 1000000, "rule 12: texts made " + (bytesMade() - before) + " bytes");
        before = bytesMade();
        new OneEyeTwoLegs(5, 5).undo();
        must(bytesMade() - before < 200000, "rule 12: an object has " + (bytesMade() - before) + " bytes");
    }

    public static void main(String[] args) throws IOException {
        face();
        room();
        classes();
        source();
        System.out.println(wrong == 0 ? "LanguageTest: the rules are kept" : "LanguageTest: " + wrong + " breaches");
        if (wrong != 0) System.exit(1);
    }
}
