import java.io.IOException;
import java.lang.management.ManagementFactory;
import java.lang.reflect.Constructor;
import java.lang.reflect.Field;
import java.lang.reflect.Method;
import java.lang.reflect.Modifier;
import java.nio.charset.StandardCharsets;
import java.nio.file.Files;
import java.nio.file.Path;
import java.util.List;
import java.util.Set;
import java.util.TreeSet;
import java.util.regex.Matcher;
import java.util.regex.Pattern;

/** The face that the document tells, and those rules of LANGUAGE.md that can be seen from outside. */
public final class LanguageTest {
    static final List<String> FACE = List.of("layout(int,int)int", "figure(int,int,int,int,int)int", "drop(int)int",
        "mention(int,int)int", "drift(int,int)int", "undo()int", "told(int)int", "figureOf(int,int)int", "page(int,int)int",
        "pageOf(int)int", "fits(int,int)int", "ways()long", "without(int)int", "moved(int,int)int", "from(int,int,int)int",
        "hand(int)int", "clear()int", "judge(int)int", "keep(int)int", "goBack(int)int");
    static final Set<String> CONSTANTS = Set.of("NONE", "UNKNOWN", "OUTSIDE", "NOT", "FULL");
    static final Path SOURCE = Path.of("src/main/java/NearFigures.java");
    static int wrong = 0;

    static void must(boolean right, String rule) {
        if (!right) {
            wrong++;
            System.out.println("not so: " + rule);
        }
    }

    static String signature(Method m) {
        StringBuilder s = new StringBuilder(m.getName()).append('(');
        for (Class<?> type : m.getParameterTypes()) {
            s.append(s.charAt(s.length() - 1) == '(' ? "" : ",").append(type.getName());
        }
        return s.append(')').append(m.getReturnType().getName()).toString();
    }

    static void methods(Class<?> c) {
        Set<String> shown = new TreeSet<>(), names = new TreeSet<>(), hidden = new TreeSet<>();
        for (Method m : c.getDeclaredMethods()) {
            if (m.isSynthetic()) {
                continue;
            }
            if (Modifier.isPublic(m.getModifiers())) {
                shown.add(signature(m));
                names.add(m.getName());
            } else {
                must(Modifier.isPrivate(m.getModifiers()), m + " is private");
                hidden.add(m.getName());
            }
        }
        must(shown.equals(new TreeSet<>(FACE)), "the public methods are those of the document: " + shown);
        hidden.retainAll(names);
        must(hidden.isEmpty(), "no private method bears a public one's name: " + hidden);
    }

    static void fields(Class<?> c) {
        Set<String> shown = new TreeSet<>();
        int own = 0;
        for (Field f : c.getDeclaredFields()) {
            int how = f.getModifiers();
            if (Modifier.isStatic(how)) {
                must(Modifier.isFinal(how), f + " is final");
            } else {
                own++;
            }
            if (Modifier.isPublic(how)) {
                shown.add(f.getName());
                must(f.getType() == int.class && Modifier.isStatic(how), f + " is a constant");
            } else {
                must(Modifier.isPrivate(how), f + " is private");
            }
        }
        must(own <= 20, c + " has some twenty fields at most");
        must(c == NearFigures.class ? shown.equals(CONSTANTS) : shown.isEmpty(), "public fields of " + c + ": " + shown);
    }

    static void face() {
        Class<?> c = NearFigures.class;
        must(c.getModifiers() == (Modifier.PUBLIC | Modifier.FINAL), "the class is public and final");
        must(c.getPackageName().isEmpty(), "there is no package");
        Constructor<?>[] made = c.getDeclaredConstructors();
        must(made.length == 1 && Modifier.isPublic(made[0].getModifiers()) && made[0].getParameterCount() == 0,
            "there is one constructor, public, without parameters");
        methods(c);
        fields(c);
        must(c.getDeclaredClasses().length < 12, "there are some twelve classes at most");
        for (Class<?> inside : c.getDeclaredClasses()) {
            must(Modifier.isStatic(inside.getModifiers()), inside + " is static");
            must(!Modifier.isPublic(inside.getModifiers()) && !Modifier.isProtected(inside.getModifiers()), inside + " is hidden");
            fields(inside);
            for (Method m : inside.getDeclaredMethods()) {
                must(m.getParameterCount() <= 7, m + " takes seven parameters at most");
            }
        }
    }

    static void source() throws IOException {
        String text = Files.readString(SOURCE, StandardCharsets.UTF_8);
        for (char c : text.toCharArray()) {
            must(c == '\n' || c >= ' ' && c < 127, "the signs of the source are plain: " + (int) c);
        }
        String code = text.replaceAll("/\\*(?s:.*?)\\*/", "").replaceAll("//[^\n]*", "");
        String[] never = {"\\bthrow\\b", "\\bthrows\\b", "\\btry\\b", "\\bcatch\\b", "\\bsynchronized\\b", "\\bassert\\b", "->", "::",
            "\\bpackage\\b", "\\bprotected\\b", "\\bfloat\\b", "\\bdouble\\b", "Exact\\b", "\\bvar\\b", "\\bstatic\\s*\\{"};
        for (String word : never) {
            Matcher m = Pattern.compile(word).matcher(code);
            must(!m.find(), "the source has no " + word);
        }
        Matcher imports = Pattern.compile("import\\s+([^;]+);").matcher(code);
        while (imports.find()) {
            must(Set.of("java.util.Arrays", "java.util.ArrayList", "java.util.List").contains(imports.group(1)), "import " + imports.group(1));
        }
    }

    static int everyCall(NearFigures x, int k) {
        int sum = x.layout(k % 6, k % 3) + x.figure(0, 1 + k % 5, k % 2, k % 120, 1 + k % 9) + x.mention(1, k % 100) + x.drop(3);
        sum += x.drift(k % 11, 1 + k) + x.told(k % 16) + x.figureOf(0, k % 8) + x.page(0, k % 7) + x.pageOf(k % 40) + x.fits(0, 2);
        sum += (int) x.ways() + x.without(0) + x.moved(0, k % 120) + x.from(0, 0, k % 2) + x.hand(k % 5) + x.judge(k % 2);
        sum += x.clear() + x.undo() + x.keep(k % 2) + x.goBack(k % 2);
        return sum;
    }

    static long bytesMade() {
        com.sun.management.ThreadMXBean bean = (com.sun.management.ThreadMXBean) ManagementFactory.getThreadMXBean();
        return bean.getThreadAllocatedBytes(Thread.currentThread().getId());
    }

    /** All rows are made in the constructor and used again, so that no run of calls can outgrow its room. */
    static void room() {
        bytesMade();
        long ahead = bytesMade();
        NearFigures x = new NearFigures();
        long made = bytesMade();
        int sum = 0;
        for (int k = 0; k < 25; k++) {
            sum += everyCall(x, k);
        }
        long behind = bytesMade();
        must(made - ahead < 80000, "a new object is small: " + (made - ahead) + " bytes");
        must(behind - made < 2000, "500 calls make nothing (" + (behind - made) + " bytes, sum " + sum + ")");
    }

    public static void main(String[] args) throws IOException {
        face();
        source();
        room();
        System.out.println(wrong == 0 ? "face and language are as asked" : wrong + " rules are broken");
        if (wrong != 0) {
            System.exit(1);
        }
    }
}
