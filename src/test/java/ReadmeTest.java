import java.io.IOException;
import java.lang.reflect.Method;
import java.nio.file.Files;
import java.nio.file.Path;
import java.util.regex.Matcher;
import java.util.regex.Pattern;

/** The examples of README.md answer what is written beside them. */
public final class ReadmeTest {
    private static final Pattern EXAMPLE = Pattern.compile("(?s)```java\n(.*?)```");
    private static final Pattern NEW_OBJECT = Pattern.compile("HandMarket market = new HandMarket\\(\\);");
    private static final Pattern FEED = Pattern.compile("for \\(char c : \"(.*)\"\\.toCharArray\\(\\)\\) market\\.feed\\(c\\);");
    private static final Pattern CALL = Pattern.compile("market\\.(\\w+)\\(([-\\d, ]*)\\); *// (-?\\d+)\\b.*");

    private static final Due DUE = new Due("ReadmeTest");

    public static void main(String[] args) throws IOException, ReflectiveOperationException {
        Matcher examples = EXAMPLE.matcher(Files.readString(Path.of("README.md")));
        int found = 0;
        while (examples.find()) {
            found++;
            follow(examples.group(1).split("\n"));
        }
        DUE.is("examples", found, 3);
        DUE.close();
    }

    private static void follow(String[] lines) throws ReflectiveOperationException {
        HandMarket market = new HandMarket();
        for (String line : lines) {
            Matcher feed = FEED.matcher(line);
            Matcher call = CALL.matcher(line);
            if (feed.matches()) {
                feed.group(1).chars().forEach(market::feed);
            } else if (call.matches()) {
                DUE.is(line, answer(market, call.group(1), call.group(2)), Long.parseLong(call.group(3)));
            } else {
                DUE.isTrue("an example's line: " + line, NEW_OBJECT.matcher(line).matches());
            }
        }
    }

    private static long answer(HandMarket market, String name, String arguments) throws ReflectiveOperationException {
        String[] words = arguments.isBlank() ? new String[0] : arguments.split(", *");
        Object[] numbers = new Object[words.length];
        Class<?>[] types = new Class<?>[words.length];
        for (int i = 0; i < words.length; i++) {
            numbers[i] = Integer.valueOf(words[i]);
            types[i] = int.class;
        }
        Method method = HandMarket.class.getMethod(name, types);
        return ((Number) method.invoke(market, numbers)).longValue();
    }
}
