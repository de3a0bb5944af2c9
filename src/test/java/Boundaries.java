/** What the tests of single sentences share: how an answer is judged. */
abstract class Boundaries extends SetUp {
  static final int NONE = BrokenFugue.NONE;
  static final int LOWEST = Integer.MIN_VALUE;
  static final int HIGHEST = Integer.MAX_VALUE;

  private static String sentence = "";
  private static int answers = 0;
  private static int wrong = 0;

  static void begin(String newSentence) {
    sentence = newSentence;
  }

  static int answers() {
    return answers;
  }

  static int wrong() {
    return wrong;
  }

  static void due(int want, int got) {
    answers++;
    if (want != got) {
      wrong++;
      System.out.println(sentence + ", line " + lineOfTest() + ": answered " + got + ", due is " + want);
    }
  }

  static void due(boolean want, boolean got) {
    due(want ? 1 : 0, got ? 1 : 0);
  }

  private static int lineOfTest() {
    return StackWalker.getInstance().walk(frames -> frames
        .filter(frame -> !frame.getClassName().equals("Boundaries")).findFirst()
        .map(StackWalker.StackFrame::getLineNumber).orElse(0));
  }

  /** What lies just beyond a range, and as far beyond it as can be. */
  static int[] beyond(int least, int most) {
    return new int[] {LOWEST, least - 1, most + 1, HIGHEST};
  }

  /** A text is read on a new object: it has this fault, at this place; 0 and NONE are none. */
  static void faultIs(String text, int fault, int place) {
    BrokenFugue x = new BrokenFugue();
    due(fault == 0 ? 0 : NONE, read(x, text));
    due(fault, x.fault(0));
    due(place, x.fault(1));
  }

  /** A text with a bar where its fault is due. */
  static void faultAtBar(int fault, String text) {
    faultIs(text.replace("|", ""), fault, text.indexOf('|'));
  }

  static void noFault(String text) {
    faultIs(text, 0, NONE);
  }
}
