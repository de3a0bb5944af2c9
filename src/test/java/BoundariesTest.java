import java.io.IOException;
import java.lang.reflect.InvocationTargetException;
import java.lang.reflect.Method;
import java.nio.file.Files;
import java.nio.file.Path;
import java.util.ArrayList;
import java.util.Comparator;
import java.util.List;
import java.util.regex.Matcher;
import java.util.regex.Pattern;

/**
 * Runs the tests of single sentences, each on a new object, and looks in ../shared/DOC.md whether the words that they
 * hold stand there, and whether all words of the terms and the promises are held by one.
 */
public final class BoundariesTest {
  private static final List<Class<?>> PARTS = List.of(BoundariesOfPieces.class, BoundariesOfTexts.class,
      BoundariesOfPrices.class, BoundariesOfSubjects.class, BoundariesOfEndings.class, BoundariesOfPages.class);
  private static final Path DOCUMENT = Path.of("..", "shared", "DOC.md");
  private static final int PROMISES = 37;

  private int wrong = 0;

  private static List<Method> tests() {
    List<Method> tests = new ArrayList<>();
    for (Class<?> part : PARTS) {
      for (Method method : part.getDeclaredMethods()) {
        if (method.isAnnotationPresent(Holds.class)) {
          tests.add(method);
        }
      }
    }
    tests.sort(Comparator.comparing((Method test) -> test.getAnnotation(Holds.class).promise())
        .thenComparing(Method::getName));
    return tests;
  }

  private void run(Method test) throws IllegalAccessException {
    Holds holds = test.getAnnotation(Holds.class);
    String name = "promise " + holds.promise() + ", " + test.getName() + ", «" + holds.words() + "»";
    int before = Boundaries.answers();
    Boundaries.begin(name);
    try {
      test.invoke(null, new BrokenFugue());
    } catch (InvocationTargetException thrown) {
      complain(name + ": " + thrown.getCause());
    }
    if (Boundaries.answers() == before) {
      complain(name + ": asks for no answer");
    }
  }

  private void complain(String what) {
    wrong++;
    System.out.println(what);
  }

  /** The words of a document in one line, without the marks of its rows of code. */
  private static String plain(String words) {
    return words.replace("```text", " ").replace("```", " ").replaceAll("==== [IV]+\\.", " ").replaceAll("\\s+", " ");
  }

  /** Behind 0 the words of the terms, behind each promise's number those of that promise. */
  private static String[] sectionsOf(String document) {
    String[] sections = new String[PROMISES + 1];
    sections[0] = plain(between(document, "\nAn object is used for", "\n## ", true) + " "
        + between(document, "\n## Terms\n", "\n## ", false));
    for (int promise = 1; promise <= PROMISES; promise++) {
      String section = plain(between(document, "\n## Promise " + promise + ":", "\n## ", false));
      sections[promise] = section.replaceFirst("^[^`]*`[^`]*`:", "");
    }
    return sections;
  }

  private static String between(String document, String from, String to, boolean withFrom) {
    int start = document.indexOf(from);
    if (start < 0) {
      return "";
    }
    int end = document.indexOf(to, start + from.length());
    return document.substring(withFrom ? start : start + from.length(), end < 0 ? document.length() : end);
  }

  private void lookUp(List<Method> tests, String document) {
    String[] sections = sectionsOf(document);
    boolean[][] held = new boolean[sections.length][];
    for (int i = 0; i < sections.length; i++) {
      held[i] = new boolean[sections[i].length()];
    }
    for (Method test : tests) {
      Holds holds = test.getAnnotation(Holds.class);
      boolean own = mark(sections[holds.promise()], held[holds.promise()], holds.words());
      if (!own && !mark(sections[0], held[0], holds.words())) {
        complain(test.getName() + ": the document does not say «" + holds.words() + "»");
      }
    }
    for (int i = 0; i < sections.length; i++) {
      tellUnheld(i, sections[i], held[i]);
    }
  }

  private static boolean mark(String section, boolean[] held, String words) {
    boolean found = false;
    for (int at = section.indexOf(words); at >= 0; at = section.indexOf(words, at + 1)) {
      found = true;
      for (int i = at; i < at + words.length(); i++) {
        held[i] = true;
      }
    }
    return found;
  }

  private void tellUnheld(int promise, String section, boolean[] held) {
    StringBuilder left = new StringBuilder();
    for (int i = 0; i < section.length(); i++) {
      left.append(held[i] ? '\n' : section.charAt(i));
    }
    Matcher run = Pattern.compile("[^\n]*\\w[^\n]*").matcher(left);
    while (run.find()) {
      complain((promise == 0 ? "terms" : "promise " + promise) + ": no test holds «" + run.group().trim() + "»");
    }
  }

  public static void main(String[] args) throws IOException, IllegalAccessException {
    BoundariesTest all = new BoundariesTest();
    List<Method> tests = tests();
    for (Method test : tests) {
      all.run(test);
    }
    if (Files.isReadable(DOCUMENT)) {
      all.lookUp(tests, Files.readString(DOCUMENT));
    } else {
      System.out.println("BoundariesTest: " + DOCUMENT + " was not found, so no words were looked up there");
    }
    int wrong = all.wrong + Boundaries.wrong();
    System.out.println("BoundariesTest: " + tests.size() + " sentences, " + Boundaries.answers() + " answers, " + wrong
        + " things not as due");
    if (wrong != 0) {
      System.exit(1);
    }
  }
}
