import java.io.IOException;
import java.lang.reflect.Constructor;
import java.lang.reflect.Field;
import java.lang.reflect.Method;
import java.lang.reflect.Modifier;
import java.nio.charset.StandardCharsets;
import java.nio.file.Files;
import java.nio.file.Path;
import java.util.ArrayList;
import java.util.Arrays;
import java.util.HashSet;
import java.util.List;
import java.util.Set;
import java.util.TreeSet;
import java.util.regex.Matcher;
import java.util.regex.Pattern;

/** The document's face, and those of LANGUAGE.md's rules that a program can look after. */
public final class LanguageTest {
    private static final String[] FACE = {
        "int feed(int,int,int,int,int)", "int board(int)", "int fault(int)", "int member(int,int)", "int chair()",
        "int drags(int)", "int goes(int)", "int turn(int,int)", "int weigh(int,int)", "int stick(int)",
        "int minutes(int)", "int undo(int)", "int judge(int,int)", "int perform(int)", "int session(int,int)",
        "int cheapest(int,int)", "int ways(int)", "int throne(int,int)", "int looks()", "int idle()", "int power(int)",
        "int strongest()", "int motion(int)", "int helps(int,int)", "int vetoes(int)", "int knees(int)",
        "int settles(int)", "int chairIn(int)", "int aimIn(int,int)", "int reign(int,int)", "int first(int)",
        "int seen(int)", "int seenAt(int,int)", "int ask(int)", "int chance(int,int,int)", "int likeliest(int)",
        "void tray(int,int,int)", "long write(int,int,long)", "int copy(int,int)", "void image(int)",
        "void restore(int)", "int count(int)"};
    private static final int MOST_LINES = 60;
    private static int wrong = 0;

    public static void main(String[] args) throws IOException {
        face();
        for (Class<?> c : classes()) {
            shape(c);
        }
        text(Files.readString(Path.of("src/main/java/SwivelBoard.java"), StandardCharsets.ISO_8859_1));
        System.exit(wrong == 0 ? 0 : 1);
    }

    private static void must(boolean fine, String what) {
        if (!fine) {
            wrong++;
            System.out.println(what);
        }
    }

    private static List<Class<?>> classes() {
        List<Class<?>> all = new ArrayList<>();
        all.add(SwivelBoard.class);
        all.addAll(Arrays.asList(SwivelBoard.class.getDeclaredClasses()));
        return all;
    }

    private static void face() {
        Class<?> c = SwivelBoard.class;
        must(Modifier.isPublic(c.getModifiers()) && Modifier.isFinal(c.getModifiers()), "public and final");
        must(c.getPackageName().isEmpty(), "no package");
        Set<String> got = new TreeSet<>();
        for (Method m : c.getDeclaredMethods()) {
            if (Modifier.isPublic(m.getModifiers())) {
                List<String> types = new ArrayList<>();
                for (Class<?> t : m.getParameterTypes()) {
                    types.add(t.getName());
                }
                got.add(m.getReturnType().getName() + " " + m.getName() + "(" + String.join(",", types) + ")");
                must(!Modifier.isStatic(m.getModifiers()), m + " is static");
            } else {
                must(Modifier.isPrivate(m.getModifiers()), m + " is neither public nor private");
            }
        }
        must(got.equals(new TreeSet<>(Arrays.asList(FACE))), "the face is " + got);
        for (Field f : c.getDeclaredFields()) {
            boolean none = f.getName().equals("NONE") && Modifier.isPublic(f.getModifiers());
            must(none || Modifier.isPrivate(f.getModifiers()), f + " can be seen");
        }
        Constructor<?>[] made = c.getDeclaredConstructors();
        must(made.length == 1 && Modifier.isPublic(made[0].getModifiers()) && made[0].getParameterCount() == 0,
            "one public constructor without parameters");
        must(classes().size() <= 12, "twelve classes at most: " + classes().size());
    }

    private static void shape(Class<?> c) {
        Set<String> faceNames = new HashSet<>();
        for (String s : FACE) {
            faceNames.add(s.substring(s.indexOf(' ') + 1, s.indexOf('(')));
        }
        if (c != SwivelBoard.class) {
            must(Modifier.isStatic(c.getModifiers()), c + " isn't static");
            must(!Modifier.isPublic(c.getModifiers()) && !Modifier.isProtected(c.getModifiers()), c + " is public");
            must(c.getDeclaredClasses().length == 0, c + " has classes inside");
        }
        int fields = 0;
        for (Field f : c.getDeclaredFields()) {
            if (Modifier.isStatic(f.getModifiers())) {
                must(Modifier.isFinal(f.getModifiers()), f + " isn't final");
                must(f.getType().isPrimitive() || f.getType() == String.class, f + " is no constant");
            } else {
                fields++;
            }
        }
        must(fields <= 20, c + " has " + fields + " fields");
        for (Method m : c.getDeclaredMethods()) {
            must(m.getParameterCount() <= 7, m + " has too many parameters");
            boolean face = c == SwivelBoard.class && Modifier.isPublic(m.getModifiers());
            must(face || !faceNames.contains(m.getName()), m + " bears a name of the face");
        }
    }

    private static void text(String source) {
        for (int i = 0; i < source.length(); i++) {
            must(source.charAt(i) < 127, "a sign beyond 126 at " + i);
        }
        String code = source.replaceAll("(?s)/\\*.*?\\*/", "").replaceAll("//[^\n]*", "");
        String plain = code.replaceAll("\"[^\"\n]*\"", "\"\"").replaceAll("'[^'\n]'", "' '");
        String[] never = {"\\btry\\b", "\\bcatch\\b", "\\bfinally\\b", "->", "::", "\\bsynchronized\\b", "\\bassert\\b",
            "\\bvar\\b", "\\bpackage\\b", "\\bnative\\b", "\\bvolatile\\b", "\\btransient\\b", "\\bstrictfp\\b",
            "\"\"\\s*\\+", "\\+\\s*\"\"", "\\bstatic\\s*\\{", "Exact\\b", "\\bSystem\\.(?!arraycopy\\b)", "\\bObject\\b",
            "\\bhashCode\\b", "\\btoString\\b", "\\bThread\\b", "\\bRandom\\b", "\\bdouble\\b", "\\bfloat\\b"};
        for (String n : never) {
            must(!Pattern.compile(n).matcher(plain).find(), "the source has " + n);
        }
        Matcher imports = Pattern.compile("import ([\\w.*]+);").matcher(plain);
        while (imports.find()) {
            must(List.of("java.util.Arrays", "java.util.NoSuchElementException").contains(imports.group(1)),
                "import " + imports.group(1));
        }
        Matcher thrown = Pattern.compile("\\bthrow\\b(?! new (IllegalStateException|IllegalArgumentException"
            + "|IndexOutOfBoundsException|NoSuchElementException)\\(\"\"\\);)").matcher(plain);
        must(!thrown.find(), "a throw of another form");
        lengths(plain);
    }

    private static void lengths(String plain) {
        Pattern head = Pattern.compile("^( {4}| {8})(?!\\s|private static final class)[^=;]*\\([^;]*\\)[^;]*\\{$");
        String[] lines = plain.split("\n");
        for (int i = 0; i < lines.length; i++) {
            Matcher m = head.matcher(lines[i]);
            if (m.find()) {
                int end = i;
                while (end < lines.length && !lines[end].equals(m.group(1) + "}")) {
                    end++;
                }
                must(end - i <= MOST_LINES, (end - i) + " lines: " + lines[i].trim());
            }
        }
    }
}
