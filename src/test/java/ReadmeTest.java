import java.io.IOException;
import java.lang.reflect.Method;
import java.nio.file.Files;
import java.nio.file.Path;
import java.util.regex.Matcher;
import java.util.regex.Pattern;

/** The calls that README.md shows, in their order on one object, answer what it says behind them. */
public final class ReadmeTest {
    private static final Due DUE = new Due("ReadmeTest");
    private static final Pattern CALL = Pattern.compile("(?m)^soup\\.(\\w+)\\((.*)\\); +// (-?\\d+)\\b.*$");
    private static final Pattern NUMBER = Pattern.compile("'(.)'|-?\\d+");

    private static long answer(SoupByRank soup, String name, Object[] numbers) throws ReflectiveOperationException {
        for (Method m : SoupByRank.class.getMethods()) {
            if (m.getName().equals(name)) {
                return ((Number) m.invoke(soup, numbers)).longValue();
            }
        }
        throw new NoSuchMethodException(name);
    }

    private static Object[] numbers(String told) {
        return NUMBER.matcher(told).results()
                .map(r -> r.group(1) == null ? Integer.parseInt(r.group()) : r.group(1).charAt(0))
                .map(n -> (Object) n).toArray();
    }

    public static void main(String[] args) throws IOException, ReflectiveOperationException {
        String readme = Files.readString(Path.of("README.md"));
        SoupByRank soup = new SoupByRank();
        Matcher call = CALL.matcher(readme);
        long shown = 0;
        for (; call.find(); shown++) {
            String name = call.group(1);
            DUE.is(name + "(" + call.group(2) + ")", answer(soup, name, numbers(call.group(2))),
                    Long.parseLong(call.group(3)));
        }
        DUE.is("calls with an answer", shown, readme.lines().filter(line -> line.startsWith("soup.")).count());
        DUE.end();
    }
}
