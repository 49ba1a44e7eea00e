import java.io.IOException;
import java.lang.management.ManagementFactory;
import java.lang.reflect.Constructor;
import java.lang.reflect.Field;
import java.lang.reflect.Method;
import java.lang.reflect.Modifier;
import java.nio.file.Files;
import java.nio.file.Path;
import java.util.Set;
import java.util.TreeSet;
import java.util.regex.Matcher;
import java.util.regex.Pattern;

/** The rules of LANGUAGE.md that can be seen in the text of the class, in its face, or in what its calls make. */
public final class LanguageTest {
    private static final Due DUE = new Due("LanguageTest");
    private static final Set<String> FACE = Set.of("count", "brings", "feed", "text", "force", "asks", "courtier",
            "put", "told", "table", "sup", "run", "cook", "raise", "exile", "seat", "order", "mean", "judge", "kinds",
            "ranks", "heats", "laws", "film", "drawn", "odds", "image", "back", "sheet", "cell", "copy", "courtBy",
            "taken");
    private static final Set<String> CONSTANTS = Set.of("NONE", "BAD", "STATE", "FULL", "NO");

    private static void text() throws IOException {
        String source = Files.readString(Path.of("src/main/java/SoupByRank.java"));
        DUE.is("signs beyond 1 to 127", source.chars().filter(c -> c < 1 || c > 127).count(), 0);
        String code = source.replaceAll("(?s)/\\*.*?\\*/", " ").replaceAll("//[^\n]*", " ")
                .replaceAll("\"[^\"\n]*\"", "\"\"");
        for (String word : new String[] {"throw", "throws", "try", "catch", "synchronized", "assert", "package",
            "import", "while", "Exception", "Exact", "MAX_VALUE", "MIN_VALUE", "equals", "hashCode", "toString",
            "volatile"}) {
            DUE.is("'" + word + "' in the text", found(code, "\\b\\w*" + word + "\\b"), 0);
        }
        DUE.is("lambdas, references to methods", found(code, "->|::"), 0);
        DUE.is("static blocks", found(code, "static\\s*\\{"), 0);
        DUE.is("texts joined by +", found(code, "\"\\s*\\+|\\+\\s*\""), 0);
        DUE.is("loops without a bound", found(code, "for\\s*\\([^;]*;\\s*;"), 0);
        methods(source);
    }

    /** A method begins with a line that ends in ") {" and ends with a } as far in as it began. */
    private static void methods(String source) {
        Matcher m = Pattern.compile("(?ms)^( {4}| {8})[^ \\n][^\\n]*\\) \\{\\n.*?\\n\\1\\}$").matcher(source);
        long seen = 0;
        for (; m.find(); seen++) {
            long lines = m.group().lines().count();
            DUE.is("lines beyond sixty of" + m.group().lines().findFirst().orElse(""), Math.max(0, lines - 60), 0);
        }
        DUE.is("methods beyond a hundred are seen", seen > 100 ? 1 : 0, 1);
    }

    private static long found(String code, String pattern) {
        Matcher m = Pattern.compile(pattern).matcher(code);
        long n = 0;
        while (m.find()) {
            System.out.println("LanguageTest: found '" + m.group() + "'");
            n++;
        }
        return n;
    }

    private static void face() {
        Class<?> soup = SoupByRank.class;
        DUE.is("public and final", soup.getModifiers() & (Modifier.PUBLIC | Modifier.FINAL),
                Modifier.PUBLIC | Modifier.FINAL);
        Set<String> methods = new TreeSet<>();
        for (Method m : soup.getDeclaredMethods()) {
            if (Modifier.isPrivate(m.getModifiers())) {
                DUE.is("a private method named " + m.getName(), FACE.contains(m.getName()) ? 1 : 0, 0);
            } else {
                methods.add(m.getName());
                DUE.is(m.getName() + " is public alone", m.getModifiers(), Modifier.PUBLIC);
            }
        }
        DUE.is("methods of the face", methods.equals(FACE) ? 1 : 0, 1);
        Set<String> constants = new TreeSet<>();
        for (Field f : soup.getDeclaredFields()) {
            isSettled(f);
            if (!Modifier.isPrivate(f.getModifiers())) {
                constants.add(f.getName());
            }
        }
        DUE.is("constants of the face", constants.equals(CONSTANTS) ? 1 : 0, 1);
        for (Constructor<?> c : soup.getDeclaredConstructors()) {
            DUE.is("parameters of the constructor", c.getParameterCount(), 0);
        }
        inside(soup);
    }

    /** What is static never changes. */
    private static void isSettled(Field f) {
        boolean isStatic = Modifier.isStatic(f.getModifiers());
        DUE.is(f + " is final", isStatic && !Modifier.isFinal(f.getModifiers()) ? 1 : 0, 0);
        DUE.is(f + " is a number or a text", isStatic && !f.getType().isPrimitive() && f.getType() != String.class
                ? 1 : 0, 0);
    }

    private static void inside(Class<?> soup) {
        DUE.is("some twelve classes", soup.getDeclaredClasses().length < 12 ? 1 : 0, 1);
        for (Class<?> c : soup.getDeclaredClasses()) {
            DUE.is(c + " is static", c.getModifiers() & Modifier.STATIC, Modifier.STATIC);
            DUE.is(c + " is shown", c.getModifiers() & (Modifier.PUBLIC | Modifier.PROTECTED), 0);
            int fields = 0;
            for (Field f : c.getDeclaredFields()) {
                fields += Modifier.isStatic(f.getModifiers()) ? 0 : 1;
                isSettled(f);
            }
            DUE.is(c + " has some twenty fields", fields <= 20 ? 1 : 0, 1);
            for (Method m : c.getDeclaredMethods()) {
                DUE.is(m + " is named as one of the face", FACE.contains(m.getName()) ? 1 : 0, 0);
                DUE.is(m + " has seven parameters", m.getParameterCount() <= 7 ? 1 : 0, 1);
            }
        }
    }

    // ---- what calls make

    private static long made() {
        return ((com.sun.management.ThreadMXBean) ManagementFactory.getThreadMXBean())
                .getThreadAllocatedBytes(Thread.currentThread().getId());
    }

    /** Of every call but text() it is nothing, however often it is called. */
    private static void room() {
        SoupByRank x = Due.under(Due.court(14, 40, 23, 50, 32, 60, 41, 70, 5, 80, 56, 90), "cools 1+(down<3);waits 5"
                + "+more;likes mood-460+rank*0;");
        for (int i = 0; i < 20; i++) {
            callAll(x);
        }
        long before = made();
        for (int i = 0; i < 20; i++) {
            callAll(x);
        }
        DUE.is("bytes made by 20 times all calls, in 1000s", (made() - before) / 1000, 0);
    }

    private static long callAll(SoupByRank x) {
        long sum = 0;
        x.film(0);
        for (int what = 0; what < 9; what++) {
            sum += x.count(what) + x.told(1, what) + x.table(what) + x.run(1, 20, what) + x.cook(what) + x.raise(what)
                    + x.exile(what) + x.seat(1, what) + x.order(what) + x.mean(what) + x.kinds(0, 1, what)
                    + x.ranks(0, 1, what) + x.heats(0, what) + x.drawn(7, what) + x.odds(7, 40, 100, what)
                    + x.taken(what, what) + x.asks(what, 1, 50, 7, 2) + x.brings(what, 50) + x.put(1, what, 50);
        }
        sum += x.judge(0) + x.laws(0) + x.force(1) + x.courtier(0, 0) + x.image() + x.sup() + x.back();
        sum += x.feed(5, 32, 32, 32, 32, 32) + x.sheet(1, 0, 40) + x.cell(1, 0, 1) + x.copy(0, 0, 1, 0, 6)
                + x.courtBy(1, 0, 0, 6) + x.text();
        return sum;
    }

    public static void main(String[] args) throws IOException {
        text();
        face();
        room();
        DUE.end();
    }
}
