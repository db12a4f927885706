import java.io.IOException;
import java.lang.reflect.Method;
import java.nio.file.Files;
import java.nio.file.Path;
import java.util.Arrays;
import java.util.Set;
import java.util.TreeSet;
import java.util.regex.Matcher;
import java.util.regex.Pattern;

/** The example in README.md: it uses every call, and each answers what its comment says. */
public final class ReadmeTest {
  private static final Pattern CALL = Pattern.compile("x\\.(\\w+)\\((.*)\\); *// (-?\\d+)(:.*)?");
  private static final Pattern MAKE = Pattern.compile("ChainWalks x = new ChainWalks\\((\\d+)\\); .*");
  private static int wrong = 0;

  private static void tell(String what) {
    wrong++;
    System.out.println(what);
  }

  private static Object number(String text) {
    return text.startsWith("0b") ? Integer.parseInt(text.substring(2), 2) : Integer.parseInt(text);
  }

  private static void due(ChainWalks x, Matcher call) throws ReflectiveOperationException {
    String list = call.group(2);
    Object[] arguments = list.isEmpty() ? new Object[0]
        : Arrays.stream(list.split(", ")).map(ReadmeTest::number).toArray();
    for (Method method : ChainWalks.class.getDeclaredMethods()) {
      if (method.getName().equals(call.group(1))) {
        long got = ((Number) method.invoke(x, arguments)).longValue();
        if (got != Long.parseLong(call.group(3))) {
          tell(call.group() + " answered " + got);
        }
      }
    }
  }

  public static void main(String[] args) throws IOException, ReflectiveOperationException {
    String example = Files.readString(Path.of("README.md")).split("```java\n|```\n")[1];
    Set<String> unused = new TreeSet<>();
    for (Method method : ChainWalks.class.getMethods()) {
      if (method.getDeclaringClass() == ChainWalks.class) {
        unused.add(method.getName());
      }
    }
    ChainWalks x = null;
    for (String line : example.split("\n")) {
      Matcher make = MAKE.matcher(line);
      Matcher call = CALL.matcher(line);
      if (make.matches()) {
        x = new ChainWalks(Integer.parseInt(make.group(1)));
      } else if (call.matches()) {
        unused.remove(call.group(1));
        due(x, call);
      } else {
        tell("not understood: " + line);
      }
    }
    if (!unused.isEmpty()) {
      tell("not in the example: " + unused);
    }
    System.out.println(wrong == 0 ? "the example is as due" : wrong + " things are not as due");
    if (wrong != 0) {
      System.exit(1);
    }
  }
}
