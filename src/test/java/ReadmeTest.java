import java.io.IOException;
import java.lang.reflect.Method;
import java.lang.reflect.Modifier;
import java.nio.charset.StandardCharsets;
import java.nio.file.Files;
import java.nio.file.Path;
import java.util.ArrayList;
import java.util.Comparator;
import java.util.List;
import java.util.regex.Matcher;
import java.util.regex.Pattern;
import java.util.stream.Stream;

/**
 * Holds README.md to its words: its example and its commands are run as they stand there, in a copy of the sources, and
 * must print what stands behind them; every method of the class and every test of the project must be named.
 */
public final class ReadmeTest {
  private static final Path README = Path.of("README.md");
  private static final Path SOURCES = Path.of("src");
  private static final Path TESTS = Path.of("src", "test", "java");
  private static final String WHOLE_RUN = "bash .ci/run";

  /** A row of lines between marks: what language they are in, and they. */
  private record Block(String language, String lines) {
  }

  private int wrong = 0;
  private int checks = 0;

  private void check(boolean holds, String what) {
    checks++;
    if (!holds) {
      wrong++;
      System.out.println("README.md: " + what);
    }
  }

  private static List<Block> blocksOf(String page) {
    List<Block> blocks = new ArrayList<>();
    Matcher block = Pattern.compile("(?ms)^```(\\w+)\n(.*?)^```$").matcher(page);
    while (block.find()) {
      blocks.add(new Block(block.group(1), block.group(2)));
    }
    return blocks;
  }

  private static void copySources(Path to) throws IOException {
    try (Stream<Path> all = Files.walk(SOURCES)) {
      for (Path path : all.toList()) {
        Path copy = to.resolve(path);
        if (Files.isDirectory(path)) {
          Files.createDirectories(copy);
        } else {
          Files.copy(path, copy);
        }
      }
    }
  }

  private static void remove(Path directory) throws IOException {
    try (Stream<Path> all = Files.walk(directory)) {
      for (Path path : all.sorted(Comparator.reverseOrder()).toList()) {
        Files.delete(path);
      }
    }
  }

  private void runBlocks(List<Block> blocks, Path in) throws IOException, InterruptedException {
    for (int i = 0; i < blocks.size(); i++) {
      Block block = blocks.get(i);
      if (block.language().equals("java")) {
        writeExample(block.lines(), in);
      } else if (block.language().equals("sh") && block.lines().trim().equals(WHOLE_RUN)) {
        // This very test is part of that run, so it is only looked for here.
        check(Files.isExecutable(Path.of(".ci", "run")), ".ci/run can't be run");
      } else if (block.language().equals("sh")) {
        boolean told = i + 1 < blocks.size() && blocks.get(i + 1).language().equals("text");
        runCommands(block.lines(), told ? blocks.get(i + 1).lines() : null, in);
      }
    }
  }

  private void writeExample(String lines, Path in) throws IOException {
    Matcher name = Pattern.compile("public final class (\\w+)").matcher(lines);
    boolean named = name.find();
    check(named, "the example has no class");
    if (named) {
      Files.writeString(in.resolve(name.group(1) + ".java"), lines);
    }
  }

  private void runCommands(String commands, String due, Path in) throws IOException, InterruptedException {
    Process process = new ProcessBuilder("sh", "-e", "-c", commands).directory(in.toFile())
        .redirectError(ProcessBuilder.Redirect.INHERIT).start();
    String printed = new String(process.getInputStream().readAllBytes(), StandardCharsets.UTF_8);
    check(process.waitFor() == 0, "these commands fail:\n" + commands + printed);
    if (due != null) {
      check(printed.equals(due), "what is printed is\n" + printed + "but due is\n" + due);
    }
  }

  private void lookForMethods(String page) {
    for (Method method : BrokenFugue.class.getDeclaredMethods()) {
      if (Modifier.isPublic(method.getModifiers())) {
        check(page.contains("`" + method.getName() + "("), method.getName() + " isn't told");
      }
    }
  }

  private void lookForTests(String page) throws IOException {
    try (Stream<Path> all = Files.list(TESTS)) {
      for (Path path : all.toList()) {
        String name = path.getFileName().toString().replace(".java", "");
        check(!name.endsWith("Test") || page.contains("- `" + name + "`:"), name + " isn't told");
      }
    }
    Matcher told = Pattern.compile("`(\\w+Test)`").matcher(page);
    while (told.find()) {
      check(Files.exists(TESTS.resolve(told.group(1) + ".java")), "there is no " + told.group(1));
    }
  }

  public static void main(String[] args) throws IOException, InterruptedException {
    ReadmeTest test = new ReadmeTest();
    String page = Files.readString(README);
    List<Block> blocks = blocksOf(page);
    Path copy = Files.createTempDirectory("readme");
    try {
      copySources(copy);
      test.runBlocks(blocks, copy);
    } finally {
      remove(copy);
    }
    test.check(blocks.stream().anyMatch(block -> block.lines().trim().equals(WHOLE_RUN)), "the whole run isn't told");
    test.lookForMethods(page);
    test.lookForTests(page);
    System.out.println("ReadmeTest: " + test.checks + " things looked at, " + test.wrong + " of them not so");
    if (test.wrong != 0) {
      System.exit(1);
    }
  }
}
