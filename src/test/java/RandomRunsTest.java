import java.lang.reflect.InvocationTargetException;
import java.lang.reflect.Method;
import java.lang.reflect.Modifier;
import java.util.ArrayList;
import java.util.HashMap;
import java.util.List;
import java.util.Map;
import java.util.Random;

/** Runs of calls drawn from fixed seeds, each asked of the class and of the Reference. */
public final class RandomRunsTest {
  private static final int CALLS = 512;

  /** Of each method's arguments the least and the greatest that are in order, pairwise. */
  private static final Map<String, int[]> RANGES = new HashMap<>();
  /** How likely each method is drawn. */
  private static final Map<String, Integer> SHARES = new HashMap<>();

  private static void range(String name, int share, int... range) {
    RANGES.put(name, range);
    SHARES.put(name, share);
  }

  static {
    range("note", 50, 0, 3, 0, 3, 0, 31, -1, 60, 1, 8);
    range("at", 10, 0, 3, 0, 3, 0, 31);
    range("subject", 40, 0, 5, 0, 11, -20, 20, 1, 4);
    range("bar", 4, 1, 12);
    range("copy", 4, 0, 3, 0, 3);
    range("feed", 2, -9999, 9999, 0, 0, 0, 0, 0, 0, 0, 0);
    range("end", 4, 0, 40);
    range("text", 3);
    range("fault", 6, 0, 1);
    range("price", 20, 0, 5, 0, 3);
    range("breaks", 40, 0, 5, 0, 3, -1, 30, 0, 4);
    range("fit", 40, 0, 5, 0, 5, 0, 5, -12, 12, 0, 8, 0, 1, 1, 2);
    range("fits", 4, 0, 5, 0, 5, 0, 5, 0, 900, -1, 900);
    range("cheapest", 3, 0, 5, 0, 5, 0, 5, 0, 1);
    range("three", 1, 0, 5, 0, 5, 0, 5, 0, 5, 0, 2);
    range("chance", 2, 0, 5, 0, 5, 0, 5, 0, 300, 1, 40, 0, 9999);
    range("seen", 10, 0, 15, -12, 12);
    range("strange", 10, 0, 15, 0, 3);
    range("follows", 15, 0, 15, 0, 3, 0, 3, 0, 60);
    range("never", 10, 0, 15, 0, 3, 0, 3);
    range("hand", 6, 0, 3, -1, 3);
    range("apart", 10, 0, 15, 0, 15);
    range("whose", 10, 0, 3, 0, 1);
    range("endings", 20, 0, 5, 0, 15, 0, 3, 0, 31, 0, 13);
    range("made", 8, 0, 5, 0, 3, 0, 3, 1, 5, -1, 4);
    range("head", 10, 0, 5, 0, 3, 0, 120, 0, 1);
    range("shape", 4, 1, 40, 1, 60);
    range("lasts", 6, 0, 3, 0, 1);
    range("page", 8, 0, 99, 0, 9, 0, 9, 0, 9);
    range("orders", 6, 0, 5);
    range("where", 8, 0, 5, 0, 7, 0, 7);
    range("weight", 4, 0, 5, 0, 9);
    range("story", 5, 0, 63, 0, 5);
    range("image", 2);
    range("back", 2);
    range("about", 12, 0, 50);
  }

  private final Random random;
  private final BrokenFugue fugue = new BrokenFugue();
  private final Reference reference = new Reference();
  private final StringBuilder told = new StringBuilder();
  private int calls = 0;
  private int wrong = 0;

  private RandomRunsTest(long seed) {
    random = new Random(seed);
  }

  private static Map<String, Method> methodsOf(Class<?> type) {
    Map<String, Method> methods = new HashMap<>();
    for (Method method : type.getDeclaredMethods()) {
      if (!Modifier.isStatic(method.getModifiers()) && !Modifier.isPrivate(method.getModifiers())) {
        methods.put(method.getName(), method);
      }
    }
    return methods;
  }

  private static final Map<String, Method> OF_CLASS = methodsOf(BrokenFugue.class);
  private static final Map<String, Method> OF_REFERENCE = methodsOf(Reference.class);

  private void call(String name, Object... arguments) throws ReflectiveOperationException {
    calls++;
    told.append(name).append(java.util.Arrays.toString(arguments)).append('\n');
    Object answer;
    try {
      answer = OF_CLASS.get(name).invoke(fugue, arguments);
    } catch (InvocationTargetException thrown) {
      answer = thrown.getCause();
    }
    Object due = OF_REFERENCE.get(name).invoke(reference, arguments);
    if (!due.equals(answer)) {
      wrong++;
      System.out.println(name + java.util.Arrays.toString(arguments) + " answered " + answer + ", due is " + due
          + ", as call " + calls);
    }
  }

  private int pick(int least, int most) {
    int way = random.nextInt(100);
    if (way == 0) {
      return least - 1;
    }
    if (way == 1) {
      return most + 1;
    }
    if (way == 2) {
      return random.nextBoolean() ? Integer.MIN_VALUE : Integer.MAX_VALUE;
    }
    return least + random.nextInt(most - least + 1);
  }

  private void callAny() throws ReflectiveOperationException {
    List<String> names = new ArrayList<>(RANGES.keySet());
    java.util.Collections.sort(names);
    int all = SHARES.values().stream().mapToInt(Integer::intValue).sum();
    int drawn = random.nextInt(all);
    String name = names.get(0);
    for (String each : names) {
      drawn -= SHARES.get(each);
      if (drawn < 0) {
        name = each;
        break;
      }
    }
    int[] range = RANGES.get(name);
    Class<?>[] types = OF_CLASS.get(name).getParameterTypes();
    Object[] arguments = new Object[types.length];
    for (int i = 0; i < types.length; i++) {
      int most = range[2 * i + 1];
      // A few texts stand at first: most calls shall ask one of these.
      if (i == 0 && most == 5 && !name.equals("subject") && random.nextInt(8) > 0) {
        most = Math.max(0, Math.min(5, reference.about(1) - 1));
      }
      int value = pick(range[2 * i], most);
      if (name.equals("note") && i == 3 && random.nextInt(3) > 0) {
        value = 25 + random.nextInt(12);
      } else if (name.equals("note") && i == 2 && random.nextInt(2) > 0) {
        value = random.nextInt(12);
      } else if (name.equals("subject") && i == 2 && random.nextInt(4) == 0) {
        value = -100;
      } else if ((name.equals("fits") || name.equals("chance")) && i == 3 && random.nextInt(3) == 0) {
        value = random.nextInt(30);
      }
      arguments[i] = types[i] == boolean.class ? (Object) (value == 1) : (Object) value;
    }
    call(name, arguments);
  }

  // ---- texts

  private static final String[] NAMES_PAIR = {"gap", "was", "mine", "yours", "low", "high", "cross", "hold", "place"};
  private static final String[] NAMES_LINE = {"step", "last", "pitch", "rest", "place"};
  private static final String[] NAMES_PAGE =
      {"number", "ruling", "ink", "size", "numberb", "rulingb", "inkb", "sizeb"};

  private String oneOf(String... some) {
    return some[random.nextInt(some.length)];
  }

  private String one(String[] names, int depth) {
    int way = random.nextInt(12);
    if (way < 5) {
      return oneOf(names);
    }
    if (way < 9 || depth > 3) {
      return "" + (random.nextInt(3) == 0 ? random.nextInt(1000) : random.nextInt(13));
    }
    return way == 9 ? "-" + one(names, depth + 1) : "(" + sum(names, depth + 1) + ")";
  }

  private String sum(String[] names, int depth) {
    StringBuilder sum = new StringBuilder(one(names, depth));
    while (random.nextInt(5) < 2 && sum.length() < 40) {
      sum.append(oneOf("+", "-", "*", "/", " + ", " - ", "*", "/")).append(one(names, depth));
    }
    return sum.toString();
  }

  private String ask(String[] names) {
    return (random.nextInt(6) == 0 ? "not " : "") + sum(names, 0) + oneOf("<", "<=", ">", ">=", "=", "#", " = ")
        + sum(names, 0);
  }

  private String clause() {
    String sort = oneOf("pair", "pair", "line", "line", "ahead", "beside");
    String[] names = sort.equals("pair") ? NAMES_PAIR : sort.equals("line") ? NAMES_LINE : NAMES_PAGE;
    StringBuilder clause = new StringBuilder(sort).append(' ');
    if (names != NAMES_PAGE) {
      clause.append(random.nextInt(3) == 0 ? sum(names, 0) : "" + random.nextInt(30)).append(oneOf(" ", "\n"))
          .append("when ");
    } else if (random.nextInt(3) > 0) {
      // Most orders would be forbidden by what is drawn freely.
      return clause + oneOf("number + 1 = numberb", "ink<inkb and size=sizeb", "number<numberb and ruling=rulingb",
          "ink=inkb and ruling*2<=rulingb", "number*3<numberb and not size=sizeb") + ";";
    }
    clause.append(ask(names));
    while (random.nextInt(4) == 0) {
      clause.append(oneOf(" and ", " or ")).append(ask(names));
    }
    return clause.append(oneOf(";", ";", " ;\n")).toString();
  }

  private String text() {
    StringBuilder text = new StringBuilder();
    int clauses = random.nextInt(6) + 1;
    for (int i = 0; i < clauses && text.length() < 200; i++) {
      text.append(clause());
    }
    if (random.nextInt(40) == 0) {
      text.setLength(0);
      for (int i = 0; i < 12; i++) {
        text.append("ahead 1=2;");
      }
    }
    int spoiled = random.nextInt(3) == 0 ? 1 + random.nextInt(2) : 0;
    for (int i = 0; i < spoiled; i++) {
      spoil(text);
    }
    return text.substring(0, Math.min(text.length(), 300));
  }

  private void spoil(StringBuilder text) {
    int at = random.nextInt(text.length() + 1);
    switch (random.nextInt(4)) {
      case 0:
        text.insert(at, oneOf("not ", "(", "((((", "------", ")", "1000 ", "gap ", "step ", "number ", ";", " or ",
            "<", "=", "pair ", "when ", "Gap", "\u00e9", "!", "_", "\t", "not not not not not not not not not ",
            "00000000000000000000007", "99999999999999999999", "not (((((((", "not(((((((("));
        break;
      case 1:
        text.setLength(at);
        break;
      case 2:
        text.delete(at, Math.min(text.length(), at + 1 + random.nextInt(3)));
        break;
      default:
        if (at < text.length()) {
          text.setCharAt(at, (char) (random.nextBoolean() ? random.nextInt(256) : 32 + random.nextInt(90)));
        }
        break;
    }
  }

  private void feedText(String text) throws ReflectiveOperationException {
    call("end", 0);
    for (int from = 0; from < text.length(); from += 20) {
      Object[] fours = new Object[5];
      for (int i = 0; i < 5; i++) {
        int four = 0;
        for (int b = 0; b < 4; b++) {
          int at = from + 4 * i + b;
          four = four << 8 | (at < text.length() ? text.charAt(at) : 0);
        }
        fours[i] = four;
      }
      call("feed", fours);
    }
    call("end", text.length());
    call("text");
    call("fault", 0);
    call("fault", 1);
    call("about", 4);
  }

  private int run(boolean textsAlone) throws ReflectiveOperationException {
    while (calls < CALLS - 30) {
      if (textsAlone || random.nextInt(reference.about(1) < 2 ? 20 : 100) == 0) {
        feedText(text());
        if (textsAlone && reference.about(1) > 4) {
          call("back");
        }
      } else {
        callAny();
      }
      if (wrong > 0) {
        System.out.println(told);
        return wrong;
      }
    }
    return wrong;
  }

  public static void main(String[] args) throws ReflectiveOperationException {
    int runs = args.length > 0 ? Integer.parseInt(args[0]) : 40;
    int from = args.length > 1 ? Integer.parseInt(args[1]) : 0;
    int wrong = 0;
    for (int run = from; run < from + runs && wrong == 0; run++) {
      wrong += new RandomRunsTest(run).run(run % 4 == 3);
    }
    System.out.println("RandomRunsTest: " + runs + " runs of some " + CALLS + " calls, " + wrong + " wrong answers");
    if (wrong > 0) {
      System.exit(1);
    }
  }
}
