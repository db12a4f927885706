import java.io.IOException;
import java.lang.reflect.Constructor;
import java.lang.reflect.Field;
import java.lang.reflect.Method;
import java.lang.reflect.Modifier;
import java.nio.file.Files;
import java.nio.file.Path;
import java.util.ArrayDeque;
import java.util.Deque;
import java.util.Map;
import java.util.Set;
import java.util.TreeMap;
import java.util.TreeSet;
import java.util.regex.Matcher;
import java.util.regex.Pattern;

/** The public face of the class, and those rules of LANGUAGE.md that its text shows plainly. */
public final class FaceTest {
  private static final Path SOURCE = Path.of("src/main/java/ChainWalks.java");
  private static final Set<String> FACE = Set.of(
      "int set(int,int,int)", "int swap(int,int)", "int reach(int)", "int classOf(int)",
      "int closed(int)", "int period(int)", "long hit(int,int,int)", "long before(int,int,int,int)",
      "long time(int,int,int)", "long visits(int,int,int)", "long share(int,int,int)",
      "long after(int,int,int,int)", "long trees(int)", "int reversible()");
  private static int wrong = 0;

  private static void must(boolean holds, String what) {
    if (!holds) {
      wrong++;
      System.out.println("not so: " + what);
    }
  }

  private static String signature(Method method) {
    StringBuilder text = new StringBuilder();
    for (Class<?> type : method.getParameterTypes()) {
      text.append(text.length() == 0 ? "" : ",").append(type.getSimpleName());
    }
    return method.getReturnType().getSimpleName() + " " + method.getName() + "(" + text + ")";
  }

  private static void checkMembers() {
    Class<?> type = ChainWalks.class;
    must(Modifier.isPublic(type.getModifiers()) && Modifier.isFinal(type.getModifiers()), "public final");
    must(type.getDeclaredClasses().length == 0, "no nested class");
    Set<String> face = new TreeSet<>();
    Set<String> names = new TreeSet<>();
    for (Method method : type.getDeclaredMethods()) {
      if (Modifier.isPublic(method.getModifiers())) {
        face.add(signature(method));
        names.add(method.getName());
      }
    }
    must(face.equals(FACE), "the public methods are those of the document: " + face);
    for (Method method : type.getDeclaredMethods()) {
      boolean hidden = Modifier.isPrivate(method.getModifiers());
      must(hidden || Modifier.isPublic(method.getModifiers()), method + " is private or public");
      must(!hidden || !names.contains(method.getName()), method + " has a name of its own");
      must(method.getParameterCount() <= 7, method + " takes at most seven parameters");
      must(!method.getReturnType().isArray(), method + " answers no array");
    }
    for (Field field : type.getDeclaredFields()) {
      must(Modifier.isPrivate(field.getModifiers()), field + " is private");
      must(!Modifier.isStatic(field.getModifiers()) || Modifier.isFinal(field.getModifiers())
          && (field.getType() == int.class || field.getType() == long.class), field + " is a constant");
    }
    Constructor<?>[] constructors = type.getDeclaredConstructors();
    must(constructors.length == 1 && Modifier.isPublic(constructors[0].getModifiers())
        && constructors[0].getParameterCount() == 1, "one public constructor");
  }

  private static void checkText() throws IOException {
    String code = Files.readString(SOURCE)
        .replaceAll("(?s)/\\*.*?\\*/", "").replaceAll("//[^\n]*", "");
    Matcher word = Pattern.compile("\\b(import|package|float|double|String|Math|Integer|Long|System|Arrays|Object"
        + "|null|this|throw|throws|try|catch|synchronized|assert|instanceof|enum|record|interface"
        + "|protected|volatile|var)\\b|->|::|\\[\\s*\\]\\s*\\[|\"").matcher(code);
    while (word.find()) {
      must(false, "the text is without " + word.group());
    }
    for (String line : code.split("\n")) {
      must(!line.contains("new ") || line.matches("  private final (int|long)\\[\\] \\w+ = new (int|long)\\[[A-Z_0-9]+\\];"),
          "arrays are made in a field's initialiser: " + line.trim());
    }
    checkCalls(code);
    checkDepth(code);
  }

  /** No call stands inside the arguments of another call. */
  private static void checkCalls(String code) {
    Deque<Boolean> open = new ArrayDeque<>();
    for (int at = 0; at < code.length(); at++) {
      if (code.charAt(at) == ')') {
        open.pop();
      } else if (code.charAt(at) == '(') {
        Matcher name = Pattern.compile("\\w+$").matcher(code.substring(Math.max(0, at - 40), at));
        boolean call = name.find();
        must(!call || !open.contains(true), "no call inside a call: " + (call ? name.group() : ""));
        open.push(call);
      }
    }
  }

  /** Methods are short, none calls itself even by way of others, and calls go at most six deep. */
  private static void checkDepth(String code) {
    Map<String, String> bodies = new TreeMap<>();
    Matcher method = Pattern.compile("(?ms)^  (?:public|private) [\\w ]*?(\\w+)\\([^)]*\\) \\{\n(.*?)^  \\}$").matcher(code);
    while (method.find()) {
      bodies.put(method.group(1), method.group(2));
      must(method.group(2).lines().count() <= 60, method.group(1) + " is short");
    }
    must(bodies.size() == ChainWalks.class.getDeclaredMethods().length + 1, "all methods are seen");
    bodies.forEach(FaceTest::checkLoops);
    bodies.forEach(FaceTest::checkDivisors);
    Set<String> last = new TreeSet<>(bodies.keySet());
    for (int depth = 1; depth < 6; depth++) {
      Set<String> next = new TreeSet<>();
      for (String name : bodies.keySet()) {
        if (last.stream().anyMatch(called -> calls(bodies.get(name), called))) {
          next.add(name);
        }
      }
      last = next;
    }
    must(last.isEmpty(), "calls go at most six deep: " + last);
  }

  /** Every loop counts up to a bound that does not change, and nothing else changes its counter. */
  private static void checkLoops(String name, String body) {
    must(!Pattern.compile("\\b(while|do)\\b").matcher(body).find(), name + " has counted loops alone");
    Pattern counted = Pattern.compile("for \\(int (\\w+) = \\w+; \\1 <=? (n|i|[A-Z_]+)( && [^;]+)?; \\1\\+\\+\\)");
    String rest = counted.matcher(body).replaceAll("");
    must(!Pattern.compile("\\bfor\\b").matcher(rest).find(), name + " shows the end of each loop");
    Matcher loop = counted.matcher(body);
    while (loop.find()) {
      Pattern change = Pattern.compile("\\b(" + loop.group(1) + "|" + loop.group(2) + ")( [-+*/%&|^<>]*= |\\+\\+|--)");
      Matcher changed = change.matcher(rest.replaceAll(" (<=|>=|==|!=) ", " ? "));
      must(!changed.find(), name + " leaves the counter " + loop.group(1) + " and its bound alone");
    }
  }

  /** A divisor has a name and is compared with 0 in the same method. */
  private static void checkDivisors(String name, String body) {
    Matcher division = Pattern.compile("[/%]=?\\s*([^\\s;,)]*)").matcher(body);
    while (division.find()) {
      String divisor = division.group(1);
      must(divisor.matches("[a-z]\\w*") && Pattern.compile("\\b" + divisor + " [!=]= 0").matcher(body).find(),
          name + " looks at the divisor " + divisor);
    }
  }

  private static boolean calls(String body, String name) {
    return Pattern.compile("\\b" + name + "\\(").matcher(body).find();
  }

  public static void main(String[] args) throws IOException {
    checkMembers();
    checkText();
    System.out.println(wrong == 0 ? "the face is as due" : wrong + " things are not as due");
    if (wrong != 0) {
      System.exit(1);
    }
  }
}
