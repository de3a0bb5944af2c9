/** Promises 7 to 10: the tape, texts and their faults. */
final class BoundariesOfTexts extends Boundaries {
  private static final String EASY = "ahead 1=1;";

  private BoundariesOfTexts() {}

  @Holds(promise = 7, words = "TEXTS 0 .. 5: of up to 300 bytes.")
  static void aTextOf300Bytes(BrokenFugue x) {
    lay(x, " ".repeat(282) + "pair 1 when gap=0;");
    due(300, x.about(4));
    due(0, x.text());
    due(0, x.fault(0));
    sing(x, 0, 0, 0, 5);
    sing(x, 0, 1, 0, 5);
    due(1, x.price(0, 0));
    lay(x, " ".repeat(283) + "pair 1 when gap=0");
    due(300, x.about(4));
    due(NONE, x.text());
    due(300, x.fault(1));
    // One row of letters and one of digits, as long as the tape.
    faultIs("p".repeat(300), 1, 0);
    faultIs("pair " + "9".repeat(295), 2, 5);
    faultIs("pair " + "0".repeat(295), 1, 300);
    faultIs("pair 0" + "+0".repeat(147), 1, 300);
    faultIs("(".repeat(300), 1, 0);
    faultIs("pair " + "(".repeat(295), 3, 13);
    faultIs(" ".repeat(299) + "!", 1, 299);
  }

  @Holds(promise = 7, words = "TEXTS 0 .. 5: of up to 300 bytes.")
  static void sixTexts(BrokenFugue x) {
    for (int text = 0; text < 6; text++) {
      due(NONE, x.price(text, 0));
      due(text, read(x, EASY));
      due(0, x.price(text, 0));
    }
    due(NONE, read(x, EASY));
    due(6, x.about(1));
    due(NONE, x.price(6, 0));
  }

  @Holds(promise = 7, words = "Twenty bytes come behind the tape, the highest of a first: how many it has.")
  static void theHighestByteOfAFirst(BrokenFugue x) {
    // pair 1 when gap=1;| and a blank: the place of each byte is that of its token.
    due(20, x.feed(0x70616972, 0x20312077, 0x68656e20, 0x6761703d, 0x313b7c20));
    due(NONE, x.text());
    due(18, x.fault(1));
    due(20, x.feed(0x20202020, 0x20202020, 0x20202020, 0x20202020, 0x2020207c));
    x.text();
    due(19, x.fault(1));
    due(20, x.feed(0x7c202020, 0x20202020, 0x20202020, 0x20202020, 0x20202020));
    x.text();
    due(0, x.fault(1));
    // Numbers below 0 are four bytes too, all within 0 .. 255.
    due(20, x.feed(0x20ffffff, -1, -1, -1, -1));
    x.text();
    due(1, x.fault(1));
    due(20, x.feed(0x70616972, 0x20312077, 0x68656e20, 0x6761703d, 0x31202020));
    due(40, x.feed(0x20202020, 0x2020203b, 0x0a0a0a0a, 0x0a0a0a0a, 0x0a0a0a0a));
    due(0, x.text());
  }

  @Holds(promise = 7, words = "NONE, and none come, if there would be more than 300.")
  static void notMoreThan300Bytes(BrokenFugue x) {
    for (int bytes = 20; bytes <= 300; bytes += 20) {
      due(bytes, x.feed(0x20202020, 0x20202020, 0x20202020, 0x20202020, 0x20202020));
    }
    due(NONE, x.feed(0, 0, 0, 0, 0));
    due(300, x.about(4));
    due(281, x.end(281));
    due(NONE, x.feed(0, 0, 0, 0, 0));
    due(281, x.about(4));
    due(280, x.end(280));
    due(300, x.feed(0x20202020, 0x20202020, 0x20202020, 0x20202020, 0x20202021));
    due(NONE, x.feed(0, 0, 0, 0, 0));
    due(NONE, x.text());
    due(299, x.fault(1));
  }

  @Holds(promise = 8, words = "The tape has its first n bytes alone: n.")
  static void theFirstBytesStay(BrokenFugue x) {
    due(0, x.end(0));
    lay(x, "pair 1 when gap=0;!!");
    due(20, x.end(20));
    due(20, x.about(4));
    due(18, x.end(18));
    due(18, x.about(4));
    due(0, x.text());
    lay(x, "pair 1 when gap=0;!!");
    due(1, x.end(1));
    // What comes next comes behind these.
    due(21, x.feed(0x61697220, 0x31207768, 0x656e2067, 0x61703d30, 0x3b212121));
    due(18, x.end(18));
    due(1, x.text());
    lay(x, "pair");
    due(0, x.end(0));
    due(2, x.text());
  }

  @Holds(promise = 8, words = "The tape has its first n bytes alone: n.")
  static void aTokenCutShort(BrokenFugue x) {
    // Of a sign, a word and a NUMBER the first bytes alone are left.
    cutTo(16, "pair 1 when gap<=1;", 1, 16);
    cutTo(10, "pair 1 when gap=1;", 1, 7);
    cutTo(11, "pair 1 when gap=1;", 1, 11);
    cutTo(8, "pair 1000 when gap=1;", 1, 8);
    cutTo(9, "pair 1000 when gap=1;", 2, 5);
    cutTo(17, "pair 1 when gap=1;", 1, 17);
    cutTo(18, "pair 1 when gap=1;!", 0, NONE);
  }

  private static void cutTo(int n, String text, int fault, int place) {
    BrokenFugue x = new BrokenFugue();
    lay(x, text);
    due(n, x.end(n));
    due(fault == 0 ? 0 : NONE, x.text());
    due(fault, x.fault(0));
    due(place, x.fault(1));
  }

  @Holds(promise = 8, words = "NONE, and nothing is done, if it has not so many, or n is below 0.")
  static void notMoreBytesThanThereAre(BrokenFugue x) {
    due(NONE, x.end(1));
    due(NONE, x.end(-1));
    x.feed(0, 0, 0, 0, 0);
    for (int n : beyond(0, 20)) {
      due(NONE, x.end(n));
      due(20, x.about(4));
    }
    due(7, x.end(7));
    due(NONE, x.end(8));
    due(NONE, x.end(20));
    due(7, x.about(4));
  }

  @Holds(promise = 9, words = "The tape (empty then) is a TEXT: its number.")
  static void theTapeIsEmptyThen(BrokenFugue x) {
    due(0, x.text());
    due(0, x.about(4));
    due(1, read(x, EASY));
    due(0, x.about(4));
    // The next is read of what has come since alone.
    due(20, x.feed(0x61686561, 0x6420313d, 0x313b2020, 0x20202020, 0x20202020));
    due(2, x.text());
    due(3, x.about(1));
  }

  @Holds(promise = 9, words = "NONE: it has a FAULT; or (the tape stays) there are 6.")
  static void aFaultyTextIsNone(BrokenFugue x) {
    due(NONE, read(x, "ahead 1=1"));
    due(0, x.about(1));
    due(0, x.about(4));
    due(NONE, x.orders(0));
    due(-2, x.about(40));
    due(0, read(x, EASY));
    due(NONE, read(x, "ahead 1=1;;"));
    due(1, x.about(1));
    due(0, x.about(4));
    due(1, x.orders(0));
    due(NONE, x.orders(1));
  }

  @Holds(promise = 9, words = "NONE: it has a FAULT; or (the tape stays) there are 6.")
  static void nothingIsLeftOfAFaultyText(BrokenFugue x) {
    x.page(1, 0, 0, 0);
    x.page(2, 0, 0, 0);
    sing(x, 0, 0, 0, 5);
    sing(x, 0, 1, 0, 5);
    // Long ones, with as many clauses as there can be, again and again.
    for (int times = 0; times < 6; times++) {
      due(NONE, read(x, "pair 999+999+999+999+999+999+999+999+999+999 when 1=1;".repeat(5) + "!"));
      due(NONE, read(x, "ahead 1=1;beside 1=1;".repeat(5) + "!"));
    }
    due(0, read(x, "ahead number<numberb;pair 7 when 1=1;"));
    due(1, x.orders(0));
    due(1, x.where(0, 0, 0));
    due(7, x.price(0, 0));
    due(1, x.breaks(0, 0, NONE, 0));
    due(1, x.breaks(0, 0, 0, 3));
    due(NONE, read(x, "ahead 1=1;".repeat(10) + "!"));
    due(1, read(x, "beside 1=1;"));
    due(2, x.orders(1));
    due(0, x.price(1, 0));
    // Nor of one that BACK has taken away.
    x.back();
    x.page(1, 0, 0, 0);
    x.page(2, 0, 0, 0);
    due(0, read(x, "beside number=1;"));
    due(2, x.orders(0));
    due(0, x.price(0, 0));
  }

  @Holds(promise = 9, words = "NONE: it has a FAULT; or (the tape stays) there are 6.")
  static void theTapeStaysOfASeventh(BrokenFugue x) {
    for (int text = 0; text < 6; text++) {
      due(text, read(x, ""));
    }
    lay(x, EASY);
    due(NONE, x.text());
    due(10, x.about(4));
    due(6, x.about(1));
    // It was not read: the latest that was read had no FAULT.
    lay(x, "ahead");
    due(NONE, x.text());
    due(5, x.about(4));
    due(0, x.fault(0));
    due(NONE, x.fault(1));
    // Once there are fewer, the same tape is one.
    lay(x, EASY);
    due(0, x.back());
    due(10, x.about(4));
    due(0, x.text());
    due(0, x.about(4));
  }

  @Holds(promise = 9, words = "TOKENS, blanks (32, 10) aside:")
  static void blanksAre32And10Alone(BrokenFugue x) {
    noFault("");
    noFault(" ");
    noFault("\n");
    noFault("\n \n pair\n1\nwhen \n gap \n=\n 1 \n;\n \n");
    noFault("pair1when gap=1;");
    for (int sign : new int[] {0, 1, 8, 9, 11, 12, 13, 31, 33, 127, 128, 160, 255}) {
      faultIs("pair" + (char) sign + "1 when gap=1;", 1, 4);
      faultIs((char) sign + "", 1, 0);
      faultIs("pair 1 when gap=1;" + (char) sign, 1, 18);
    }
    // They part what would be one TOKEN.
    faultAtBar(1, "|pa ir 1 when gap=1;");
    faultAtBar(1, "pair 1 |2 when gap=1;");
    faultAtBar(1, "pair 1 when gap<\n|=1;");
  }

  @Holds(promise = 9, words = "letters a .. z, A .. Z one behind the other (one TOKEN),")
  static void lettersAreOneToken(BrokenFugue x) {
    for (char letter : new char[] {'a', 'z', 'A', 'Z'}) {
      faultIs("pair" + letter + " 1 when gap=1;", 1, 0);
      faultIs("pair 1 when gap" + letter + "=1;", 1, 12);
      faultIs(letter + "pair 1 when gap=1;", 1, 0);
    }
    // Just beside the letters, and no part of a word.
    for (char sign : new char[] {'@', '[', '`', '{', '_', 225}) {
      faultIs("pair" + sign + "1 when gap=1;", 1, 4);
      faultIs("pair 1 when gap" + sign + "=1;", 1, 15);
    }
    faultIs("PAIR 1 when gap=1;", 1, 0);
    faultIs("pair 1 when Gap=1;", 1, 12);
    faultIs("pair 1 whengap=1;", 1, 7);
    faultIs("pair 1 when ga=1;", 1, 12);
    noFault("pair 1when(gap)=1and 1=1or not 1=1;ahead-number=1;");
  }

  @Holds(promise = 9, words = "digits likewise (NUMBERS, 0 .. 999),")
  static void digitsAreOneToken(BrokenFugue x) {
    noFault("pair 0 when gap=999;");
    noFault("pair 000 when gap=00999;");
    faultIs("pair 1 when gap=1000;", 2, 16);
    faultIs("pair 1 when gap=1 0;", 1, 18);
    // Just beside the digits: 47 is a sign of its own, 58 is none.
    faultIs("pair 1 when gap=1:0;", 1, 17);
    noFault("pair 1 when gap=1/0;");
    sing(x, 0, 0, 0, 9);
    sing(x, 0, 1, 0, 9);
    read(x, "pair 1 when 123+456+789+0=999+369;pair 10 when 0=000 and 007=7 and 0=gap;");
    due(11, x.price(0, 0));
  }

  @Holds(promise = 9, words = "<= >= < > = # + - * / ( ) ; (the longest).")
  static void theLongestSign(BrokenFugue x) {
    sing(x, 0, 0, 0, 9);
    sing(x, 0, 1, 0, 8);
    // gap is 1: < and > alone would not be so, and what is parted by a blank can't stand.
    read(x, "pair 1 when gap<=1 and gap>=1;pair 10 when gap<-1 or gap>-1;pair 100 when gap<=-1 or gap>=-1;");
    due(111, x.price(0, 0));
    for (String sign : new String[] {"=<", "=>", "==", "##", "<>", "><", "<<", ">>", "<==", ">==", "=#", "<#"}) {
      int longest = sign.startsWith("<=") || sign.startsWith(">=") ? 2 : 1;
      faultIs("pair 1 when gap" + sign + "1;", 1, 15 + longest);
    }
    faultIs("pair 1 when gap< =1;", 1, 17);
    faultIs("pair 1 when gap> =1;", 1, 17);
    for (char sign : new char[] {'!', '"', '$', '%', '&', '\'', ',', '.', ':', '?', '\\', ']', '^', '|', '}', '~'}) {
      faultIs("pair 1 when gap" + sign + "1;", 1, 15);
    }
  }

  @Holds(promise = 9, words = "{CLAUSE}, 10 at most:")
  static void from0To10Clauses(BrokenFugue x) {
    for (int clauses = 0; clauses <= 10; clauses++) {
      noFault(EASY.repeat(clauses));
    }
    faultIs(EASY.repeat(11), 5, 100);
    sing(x, 0, 0, 0, 9);
    sing(x, 0, 1, 0, 9);
    due(0, read(x, ""));
    due(0, x.price(0, 0));
    due(1, read(x, "pair 7 when gap=0;".repeat(10)));
    due(70, x.price(1, 0));
    due(9, x.breaks(1, 0, 9, 3));
  }

  @Holds(promise = 9, words = "pair SUM when EITHER ; or line SUM when EITHER ; or ahead EITHER ; or beside EITHER ;.")
  static void noPartOfAClauseIsWanting(BrokenFugue x) {
    noFault("pair 1 when 1=1;line 1 when 1=1;ahead 1=1;beside 1=1;");
    for (String sort : new String[] {"pair", "line"}) {
      faultAtBar(1, sort + " |when 1=1;");
      faultAtBar(1, sort + " 1 |1=1;");
      faultAtBar(1, sort + " 1 when |;");
      faultAtBar(1, sort + " 1|;");
      faultAtBar(1, sort + "|;");
      faultAtBar(1, sort + " 1|=1 when 1=1;");
      faultAtBar(1, sort + " 1 when 1=1 |when 1=1;");
    }
    for (String sort : new String[] {"ahead", "beside"}) {
      faultAtBar(1, sort + " |;");
      faultAtBar(1, sort + " |when 1=1;");
      faultAtBar(1, sort + " 1 |when 1=1;");
      faultAtBar(1, sort + " 1=1 |when 1=1;");
    }
    for (String sort : new String[] {"pair 1 when", "line 1 when", "ahead", "beside"}) {
      faultAtBar(1, sort + " 1=1|");
      faultAtBar(1, sort + " 1=1 |" + EASY);
      faultAtBar(1, sort + " 1=1;|;");
    }
    faultAtBar(1, "|1=1;");
    faultAtBar(1, "|when 1=1;");
  }

  @Holds(promise = 9, words = "NAMES of pair: gap was mine yours low high cross hold, of line: step last pitch rest, of"
      + " both: place; of ahead and beside: number ruling ink size, numberb rulingb inkb sizeb.")
  static void eachNameInItsSortsAlone(BrokenFugue x) {
    String[] pair = {"gap", "was", "mine", "yours", "low", "high", "cross", "hold"};
    String[] line = {"step", "last", "pitch", "rest"};
    String[] pages = {"number", "ruling", "ink", "size", "numberb", "rulingb", "inkb", "sizeb"};
    namesIn(pair, true, false, false);
    namesIn(line, false, true, false);
    namesIn(new String[] {"place"}, true, true, false);
    namesIn(pages, false, false, true);
  }

  private static void namesIn(String[] names, boolean pair, boolean line, boolean pages) {
    for (String name : names) {
      nameIn("pair 1 when ", name, pair);
      nameIn("pair ", name + " when 1=1", pair);
      nameIn("line 1 when ", name, line);
      nameIn("line ", name + " when 1=1", line);
      nameIn("ahead ", name, pages);
      nameIn("ahead 1=", name + "+1", pages);
      nameIn("beside ", name, pages);
    }
  }

  private static void nameIn(String ahead, String behind, boolean can) {
    String text = ahead + behind + (behind.contains("=") || ahead.contains("=") ? ";" : "=1;");
    faultIs(text, can ? 0 : 4, can ? NONE : ahead.length());
  }

  @Holds(promise = 10, words = "FAULTS, the first as TOKENS are come to,")
  static void theFirstOfTwoFaults(BrokenFugue x) {
    faultAtBar(4, "pair |step when 1000=1;");
    faultAtBar(2, "pair |1000 when step=1;");
    faultAtBar(2, "pair |1000 !");
    faultAtBar(1, "pair 1 |! step");
    faultAtBar(3, "pair ((((((((|(1000");
    faultAtBar(5, EASY.repeat(10) + "|pair step");
    faultAtBar(1, EASY.repeat(9) + "|!" + EASY + EASY);
  }

  @Holds(promise = 10, words = "at the TOKEN's first byte (of the end at the length),")
  static void placesFrom0To300(BrokenFugue x) {
    faultIs("!", 1, 0);
    faultIs("   !", 1, 3);
    faultIs("pair", 1, 4);
    faultIs("pair \n", 1, 6);
    faultIs("pair 1 when 1=1", 1, 15);
    faultIs("pair 1 when 1=1   ", 1, 18);
    faultIs("ahead 1000=1;", 2, 6);
    faultIs("ahead placement=1;", 1, 6);
    faultIs("ahead place=1;", 4, 6);
    faultIs("pair" + " ".repeat(296), 1, 300);
    faultIs(" ".repeat(299) + ";", 1, 299);
  }

  @Holds(promise = 10, words = "of one the least:")
  static void theLeastOfOneToken(BrokenFugue x) {
    // Where a NUMBER, a parenthesis, a NAME, a CLAUSE can't stand, it is that and nothing else.
    faultAtBar(1, "pair 1 |1000 when 1=1;");
    faultAtBar(1, "|1000");
    faultAtBar(1, "pair 1 |step when 1=1;");
    faultAtBar(1, "|step");
    faultAtBar(1, "pair ((((((((1|(1");
    faultAtBar(1, "ahead not not not not not not not not 1 |not 1=1;");
    faultAtBar(1, "pair --------|not 1=1;");
    faultAtBar(1, EASY.repeat(10) + "|;");
    faultAtBar(1, EASY.repeat(10) + "|number=1;");
    faultAtBar(1, EASY.repeat(10) + "|1000");
    faultAtBar(5, EASY.repeat(10) + "|line");
  }

  @Holds(promise = 10, words = "1 it can't stand there, or is none.")
  static void whatCantStandOrIsNone(BrokenFugue x) {
    for (String none : new String[] {"!", "foo", "pairs", "gaps", "nots", "\0", "\t", "Pair", "\u00ff", "wheN"}) {
      faultIs(none, 1, 0);
      faultIs("pair " + none + " when 1=1;", 1, 5);
      faultIs("pair 1 " + none + " 1=1;", 1, 7);
      faultIs("pair 1 when 1=1 " + none, 1, 16);
    }
    for (String text : new String[] {"pair 1+|*2 when 1=1;", "pair 1 when 1=|not 1=1;", "pair 1 when (|not 1=1);",
        "pair 1 when (1|=1);", "pair (1 |when 1=1;", "pair (|);", "pair 1|) when 1=1;", "pair 1 when 1=1|=1;",
        "pair 1 when 1|;", "pair 1 when 1 |or 1=1;", "pair 1 when 1=1 or |;", "pair 1 when 1=1 and |or 1=1;",
        "pair 1 when not |;", "pair 1 when |and 1=1;", "pair 1+|when 1=1;", "pair 1 when 1=|;", "pair -|;",
        "pair 1 when 1=1 |not 1=1;", "pair 1 |not when 1=1;", "pair 1 |or 2 when 1=1;", "ahead 1=1 or |ahead 1=1;"}) {
      faultAtBar(1, text);
    }
  }

  @Holds(promise = 10, words = "2 a NUMBER above 999.")
  static void numbersAbove999(BrokenFugue x) {
    noFault("pair 999 when 999=999;");
    noFault("pair 0000000000000999 when 1=1;");
    for (String number : new String[] {"1000", "01000", "9999", "1001", "99999999999", "2147483648", "4294967296",
        "4294967297", "18446744073709551617", "10000000000000000000000000000000000"}) {
      faultIs("pair " + number + " when 1=1;", 2, 5);
      faultIs("ahead number=" + number + ";", 2, 13);
    }
  }

  @Holds(promise = 10, words = "3 the 9th of ( not and - (of one ONE) that are open around one another (at it).")
  static void theNinthThatIsOpen(BrokenFugue x) {
    noFault("pair ((((((((1)))))))) when 1=1;");
    faultAtBar(3, "pair ((((((((|(1))))))))) when 1=1;");
    noFault("pair --------1 when 1=1;");
    faultAtBar(3, "pair --------|-1 when 1=1;");
    noFault("ahead not not not not not not not not 1=1;");
    faultAtBar(3, "ahead not not not not not not not not |not 1=1;");
    faultAtBar(3, "ahead not not not not not not not not |(1)=1;");
    faultAtBar(3, "ahead not not not not not not not not |-1=1;");
    faultAtBar(3, "ahead not not not not not not not not 1=|-1;");
    faultAtBar(3, "ahead not not not not not not not not 1=1+|(1);");
    faultAtBar(3, "ahead not not -(-(-(|(1))))=1;");
    faultAtBar(3, "ahead not not -(-(-(|-1)))=1;");
    noFault("ahead not not -(-(-(1)))=-(-(-(1)));");
    faultAtBar(3, "pair -(-(-(-(|-1)))) when 1=1;");
    faultAtBar(3, "pair -(-(-(-(|(1))))) when 1=1;");
  }

  @Holds(promise = 10, words = "3 the 9th of ( not and - (of one ONE) that are open around one another (at it).")
  static void whatIsShutIsOpenNoMore(BrokenFugue x) {
    noFault("pair " + "(1)+".repeat(20) + "1 when 1=1;");
    noFault("pair " + "-1-".repeat(20) + "1 when 1=1;");
    noFault("pair " + "-(1)*".repeat(20) + "-1 when -1=-1 and -1=-1;");
    noFault("ahead " + "not 1=1 and ".repeat(12) + "not 1=1;");
    noFault("ahead " + "not 1=1 or ".repeat(12) + "not 1=1;");
    // A - between two is of no ONE, and one at a time is shut by what follows.
    noFault("pair 1" + "-1".repeat(40) + " when 1=1;");
    noFault("pair 1" + "--1".repeat(40) + " when 1=1;");
    noFault("pair ((((((((1))))))))+((((((((1)))))))) when ((((((((1))))))))=((((((((1))))))));");
    noFault("pair --------1*--------1+--------1 when --------1<--------1;");
    // not lies around both sides of its comparison, and around no other.
    noFault("ahead not 1=(((((((1)))))));");
    faultAtBar(3, "ahead not 1=(((((((|(1))))))));");
    noFault("ahead not 1=1 or 1=((((((((1))))))));");
    faultAtBar(3, "ahead 1=1 or not (((((((|(1))))))))=1;");
    noFault("ahead not not not not not not not not 1=1;" + "ahead not not not not not not not not 1=1;");
    // Nothing that a faulty text left open counts in the next.
    due(NONE, read(x, "pair (((((((((1"));
    due(0, read(x, "pair ((((((((1)))))))) when 1=1;"));
    due(NONE, read(x, "pair 1 when 1=1 or not -(1"));
    due(NONE, read(x, "ahead not not not 1"));
    due(1, read(x, "pair 3 when not not not not not not not not 1=1;"));
    sing(x, 0, 0, 0, 5);
    sing(x, 0, 1, 0, 5);
    due(1, x.price(0, 0));
    due(3, x.price(1, 0));
  }

  @Holds(promise = 10, words = "4 a NAME of another sort of CLAUSE (at it).")
  static void namesOfAnotherSort(BrokenFugue x) {
    faultAtBar(4, "pair |step when 1=1;");
    faultAtBar(4, "pair 1 when 1=1 or |number=1;");
    faultAtBar(4, "line 1+(|gap) when 1=1;");
    faultAtBar(4, "line 1 when not |sizeb=1;");
    faultAtBar(4, "ahead |place=1;");
    faultAtBar(4, "beside 1=|hold;");
    faultAtBar(4, "beside 1=-|rest;");
    // The sort is that of its own CLAUSE, not of those ahead of it.
    faultAtBar(4, "line step when 1=1;pair |step when 1=1;");
    faultAtBar(4, "pair gap when 1=1;ahead |gap=1;");
    noFault("pair place when gap=1;line place when step=1;beside ink=inkb;ahead size=sizeb;");
  }

  @Holds(promise = 10, words = "5 the 11th CLAUSE (at its first TOKEN).")
  static void theEleventhClause(BrokenFugue x) {
    noFault(EASY.repeat(10) + " \n ");
    faultAtBar(5, EASY.repeat(10) + " \n |pair");
    faultAtBar(5, EASY.repeat(10) + "|beside number=1;");
    faultAtBar(5, "pair 1 when 1=1;line 1 when 1=1;ahead 1=1;beside 1=1;" + EASY.repeat(6) + "|" + EASY);
    due(NONE, read(x, EASY.repeat(11)));
    due(0, read(x, EASY.repeat(10)));
  }

  @Holds(promise = 10, words = "Of the latest text that was read: 0 its FAULT (0 without), 1 its place (NONE without).")
  static void ofTheLatestTextAlone(BrokenFugue x) {
    read(x, "!");
    due(1, x.fault(0));
    due(0, x.fault(1));
    read(x, "ahead 1000");
    due(2, x.fault(0));
    due(6, x.fault(1));
    // What is laid on the tape is not read yet.
    lay(x, "  !");
    due(2, x.fault(0));
    due(6, x.fault(1));
    read(x, "");
    due(0, x.fault(0));
    due(NONE, x.fault(1));
    read(x, "ahead gap=1;");
    due(4, x.fault(0));
    due(6, x.fault(1));
  }

  @Holds(promise = 10, words = "NONE for others, and ahead of any.")
  static void noneAheadOfAnyText(BrokenFugue x) {
    due(NONE, x.fault(0));
    due(NONE, x.fault(1));
    lay(x, "!");
    due(NONE, x.fault(0));
    x.text();
    for (int what : beyond(0, 1)) {
      due(NONE, x.fault(what));
    }
    x.text();
    for (int what : beyond(0, 1)) {
      due(NONE, x.fault(what));
    }
    due(0, x.fault(0));
  }
}
