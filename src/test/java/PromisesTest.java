/** Each promise of the document by hand-worked answers: ordinary inputs, edges, wrong inputs. */
public final class PromisesTest extends SetUp {
  private static final int NONE = BrokenFugue.NONE;
  private static final int LOWEST = Integer.MIN_VALUE;
  private static final int HIGHEST = Integer.MAX_VALUE;

  private static int wrong = 0;
  private static int asked = 0;
  private static int promise = 0;

  private static void due(String what, int want, int got) {
    asked++;
    if (got != want) {
      wrong++;
      System.out.println("promise " + promise + ": " + what + " answered " + got + ", due is " + want);
    }
  }

  private static void due(String what, boolean want, boolean got) {
    due(what, want ? 1 : 0, got ? 1 : 0);
  }

  private static void promise1NewObject() {
    BrokenFugue x = new BrokenFugue();
    for (int p = 0; p < 4; p++) {
      due("length", 0, x.about(10 + p));
      due("hand", NONE, x.about(20 + p));
      for (int v = 0; v < 4; v++) {
        due("at 0", NONE, x.at(p, v, 0));
        due("at 31", NONE, x.at(p, v, 31));
      }
    }
    for (int s = 0; s < 6; s++) {
      due("subject", 0, x.about(30 + s));
    }
    due("bar", 4, x.about(0));
    due("texts", 0, x.about(1));
    due("pages", 0, x.about(2));
    due("shapes", 0, x.about(3));
    due("tape", 0, x.about(4));
    due("no weight", -2, x.about(40));
    due("fault", NONE, x.fault(0));
    due("NONE", -1, BrokenFugue.NONE);
    // The first image is the new object itself.
    x.note(0, 0, 0, 1, 1);
    x.subject(0, 0, 1, 1);
    x.bar(7);
    x.hand(0, 2);
    x.shape(1, 2);
    x.page(1, 1, 1, 1);
    read(x, "");
    due("back", 0, x.back());
    due("length then", 0, x.about(10));
    due("subject then", 0, x.about(30));
    due("bar then", 4, x.about(0));
    due("hand then", NONE, x.about(20));
    due("shapes then", 0, x.about(3));
    due("pages then", 0, x.about(2));
  }

  private static void promise2Note() {
    BrokenFugue x = new BrokenFugue();
    due("first", 8, x.note(0, 0, 0, 0, 8));
    due("last beat", 32, x.note(0, 3, 31, 60, 1));
    due("greatest length at the end", 32, x.note(0, 2, 24, 60, 8));
    due("held", 160, x.at(0, 2, 31));
    due("of the piece, not the voice", 32, x.note(0, 1, 2, 5, 1));
    // What was there is gone; what was held on the next beat begins there.
    x.note(1, 0, 0, 20, 6);
    due("inside", 6, x.note(1, 0, 2, 30, 2));
    due("ahead begins", 20, x.at(1, 0, 0));
    due("ahead held", 120, x.at(1, 0, 1));
    due("new", 30, x.at(1, 0, 2));
    due("new held", 130, x.at(1, 0, 3));
    due("behind begins", 20, x.at(1, 0, 4));
    due("behind held", 120, x.at(1, 0, 5));
    due("rest inside", 6, x.note(1, 0, 4, NONE, 1));
    due("rests", NONE, x.at(1, 0, 4));
    due("behind a rest begins", 20, x.at(1, 0, 5));
    due("rest at the end", 4, x.note(1, 0, 5, NONE, 1));
    due("all rests", 0, x.note(1, 0, 0, NONE, 8));
    due("a next note stays as it is", 3, x.note(2, 0, 2, 9, 1));
    due("ahead of it", 3, x.note(2, 0, 0, 7, 2));
    due("it", 9, x.at(2, 0, 2));
    due("held, not begun anew", 107, x.at(2, 0, 1));
    x.note(3, 1, 24, 33, 8);
    x.note(3, 1, 30, 34, 1);
    due("begins on the last beat", 33, x.at(3, 1, 31));
    due("held up to there", 133, x.at(3, 1, 29));
    for (int bad : new int[] {LOWEST, -1, 4, HIGHEST}) {
      due("piece", NONE, x.note(bad, 0, 0, 1, 1));
      due("voice", NONE, x.note(0, bad, 0, 1, 1));
    }
    for (int bad : new int[] {LOWEST, -1, 32, HIGHEST}) {
      due("beat", NONE, x.note(0, 0, bad, 1, 1));
    }
    for (int bad : new int[] {LOWEST, -2, 61, HIGHEST}) {
      due("pitch", NONE, x.note(0, 0, 0, bad, 1));
    }
    for (int bad : new int[] {LOWEST, 0, 9, HIGHEST}) {
      due("long", NONE, x.note(0, 0, 0, 1, bad));
    }
    due("beyond the end", NONE, x.note(0, 0, 25, 1, 8));
    due("rests beyond the end", NONE, x.note(0, 0, 31, NONE, 2));
    due("nothing came of these", NONE, x.at(0, 0, 25));
    due("nor here", 0, x.at(0, 0, 0));
  }

  private static void promise3At() {
    BrokenFugue x = new BrokenFugue();
    x.note(3, 3, 29, 60, 3);
    due("begins", 60, x.at(3, 3, 29));
    due("held", 160, x.at(3, 3, 31));
    due("rests", NONE, x.at(3, 3, 28));
    x.note(0, 0, 0, 0, 2);
    due("pitch 0", 0, x.at(0, 0, 0));
    due("pitch 0 held", 100, x.at(0, 0, 1));
    for (int bad : new int[] {LOWEST, -1, 4, HIGHEST}) {
      due("piece", NONE, x.at(bad, 0, 0));
      due("voice", NONE, x.at(0, bad, 0));
    }
    for (int bad : new int[] {LOWEST, -1, 32, HIGHEST}) {
      due("beat", NONE, x.at(0, 0, bad));
    }
  }

  private static void promise4Subject() {
    BrokenFugue x = new BrokenFugue();
    due("first", 4, x.subject(0, 0, -20, 4));
    due("last beat", 12, x.subject(0, 11, 20, 1));
    due("to the end", 12, x.subject(5, 8, 0, 4));
    due("rests at the end", 4, x.subject(0, 8, -100, 4));
    due("rests inside", 4, x.subject(0, 1, -100, 2));
    due("told so", 4, x.about(30));
    due("all rest", 0, x.subject(0, 0, -100, 4));
    for (int bad : new int[] {LOWEST, -1, 6, HIGHEST}) {
      due("subject", NONE, x.subject(bad, 0, 0, 1));
    }
    for (int bad : new int[] {LOWEST, -1, 12, HIGHEST}) {
      due("beat", NONE, x.subject(0, bad, 0, 1));
    }
    for (int bad : new int[] {LOWEST, -101, -99, -21, 21, HIGHEST}) {
      due("pitch", NONE, x.subject(0, 0, bad, 1));
    }
    for (int bad : new int[] {LOWEST, 0, 5, HIGHEST}) {
      due("long", NONE, x.subject(0, 0, 0, bad));
    }
    due("beyond the end", NONE, x.subject(0, 9, 0, 4));
    due("rests beyond the end", NONE, x.subject(0, 11, -100, 2));
    due("nothing came of these", 0, x.about(30));
    // A note cut in two is two notes: the second begins where the first would be held.
    x.subject(1, 0, 0, 4);
    x.subject(1, 1, 5, 1);
    subjectOf(x, 2, 0);
    read(x, "line 1 when step=-5 and rest=0;");
    due("its tail begins", 1, x.fit(0, 2, 1, 0, 0, false, 1));
    x.subject(1, 1, -100, 1);
    read(x, "line 1 when step=0 and rest=1;");
    due("behind a rest too", 1, x.fit(1, 2, 1, 0, 0, false, 1));
  }

  private static void promise5Bar() {
    BrokenFugue x = new BrokenFugue();
    sing(x, 0, 0, 0, 1, 1, 1, 1, 1, 1, 1, 1, 1, 1, 1, 1, 1);
    read(x, "line 1 when place=0;");
    due("4 at first", 3, x.price(0, 0));
    due("1", true, x.bar(1));
    due("each", 12, x.price(0, 0));
    due("12", true, x.bar(12));
    due("one", 1, x.price(0, 0));
    due("told", 12, x.about(0));
    for (int bad : new int[] {LOWEST, -1, 0, 13, HIGHEST}) {
      due("beats", false, x.bar(bad));
    }
    due("unchanged", 12, x.about(0));
  }

  private static void promise6Copy() {
    BrokenFugue x = new BrokenFugue();
    x.note(0, 0, 0, 5, 3);
    x.note(0, 3, 4, 6, 1);
    x.note(1, 2, 0, 7, 1);
    x.hand(0, 2);
    due("copy", true, x.copy(0, 1));
    due("begins", 5, x.at(1, 0, 0));
    due("held", 105, x.at(1, 0, 2));
    due("last voice", 6, x.at(1, 3, 4));
    due("gone", NONE, x.at(1, 2, 0));
    due("the hand stays", NONE, x.about(21));
    x.note(0, 0, 0, 9, 1);
    due("no twin later", 5, x.at(1, 0, 0));
    due("of itself", true, x.copy(1, 1));
    due("as it was", 5, x.at(1, 0, 0));
    for (int bad : new int[] {LOWEST, -1, 4, HIGHEST}) {
      due("from", false, x.copy(bad, 0));
      due("to", false, x.copy(0, bad));
    }
  }

  private static void promise7Feed() {
    BrokenFugue x = new BrokenFugue();
    // pair 1 when gap=1;!! and behind it what is no token.
    due("first", 20, x.feed(0x70616972, 0x20312077, 0x68656e20, 0x6761703d, 0x313b2121));
    x.text();
    due("in the order of the bytes", 18, x.fault(1));
    due("empty then", 0, x.about(4));
    for (int i = 1; i <= 14; i++) {
      due("feed " + i, 20 * i, x.feed(0, 0, 0, 0, 0));
    }
    due("cut", 279, x.end(279));
    due("up to 299", 299, x.feed(0, 0, 0, 0, 0));
    due("too many", NONE, x.feed(0, 0, 0, 0, 0));
    due("none come", 299, x.about(4));
    x.end(280);
    due("up to 300", 300, x.feed(-1, -1, -1, -1, -1));
    due("one too many", NONE, x.feed(0, 0, 0, 0, 0));
    x.end(281);
    due("301 would be too many", NONE, x.feed(0, 0, 0, 0, 0));
    due("none come then", 281, x.about(4));
    // Bytes come behind those that are there.
    lay(x, "pai");
    x.feed(0x7220312a, 0x7768656e, 0x20202020, 0x20202020, 0x20202020);
    x.text();
    due("the place of when", 7, x.fault(1));
  }

  private static void promise8End() {
    BrokenFugue x = new BrokenFugue();
    due("empty", 0, x.end(0));
    due("more than none", NONE, x.end(1));
    x.feed(0x20202020, 0x20202020, 0x2b202020, 0, 0);
    due("too many", NONE, x.end(21));
    due("negative", NONE, x.end(-1));
    due("most negative", NONE, x.end(LOWEST));
    due("greatest", NONE, x.end(HIGHEST));
    due("nothing is done", 20, x.about(4));
    due("all", 20, x.end(20));
    due("some", 8, x.end(8));
    due("told", 8, x.about(4));
    due("what is cut is no more", NONE, x.end(9));
    due("blanks", 0, x.text());
  }

  private static void promise9Text() {
    BrokenFugue x = new BrokenFugue();
    due("the empty tape", 0, x.text());
    due("blanks alone", 1, read(x, " \n \n"));
    due("a faulty one", NONE, read(x, "pair;"));
    due("its tape is empty then", 0, x.about(4));
    due("no text of it", 2, x.about(1));
    due("names of pair", 2, read(x, "pair gap+was+mine+yours+low+high+cross+hold+place when 1=1;"));
    due("names of line", 3, read(x, "line step+last+pitch+rest+place when 1=1 ;"));
    due("names of pages", 4,
        read(x, "ahead number+ruling+ink+size=numberb+rulingb+inkb+sizeb;beside number<=numberb;"));
    due("ten clauses, blanks or none", 5, read(x, "ahead 1<2;ahead 1<=2;ahead 1>2;ahead 1>=2;ahead 1=2;ahead 1#2;"
        + "beside not not 1=1 or 2=2 and 3=3;\nbeside(1)=1;beside-1<- -2*(3+4)/5;pair 999when gap=0;"));
    due("its tape too", 0, x.about(4));
    lay(x, "pair 1 when gap=1;");
    due("a seventh", NONE, x.text());
    due("the tape stays", 18, x.about(4));
    due("no fault", 0, x.fault(0));
    lay(x, "pair;");
    due("a faulty seventh", NONE, x.text());
    due("its tape stays", 5, x.about(4));
    due("six", 6, x.about(1));
    // What a faulty text left behind does not trouble the next.
    BrokenFugue y = new BrokenFugue();
    y.note(0, 0, 0, 30, 1);
    y.note(0, 1, 0, 23, 1);
    y.page(1, 0, 0, 0);
    y.page(2, 0, 0, 0);
    String nines = "pair 9 when 9=9 and 9=9 and 9=9 and 9=9 and 9=9 and 9=9 and 9=9 and 9=9;";
    for (int i = 0; i < 5; i++) {
      due("a long faulty one", NONE, read(y, nines + nines + nines + "pair ((((((((1 ;"));
      due("negatives open", NONE, read(y, "pair --------" + (i % 2 == 0 ? ";" : "(1 when 2=2;")));
      due("nots open", NONE, read(y, nines + "ahead not not not not not not not not 1<;"));
    }
    due("a parenthesis that none opens", NONE, read(y, "pair 1) when 1=1;"));
    due("its place", 6, y.fault(1));
    due("eight deep", 0, read(y, "ahead not not not not not not not -number>-numberb;"
        + "pair -((((((-1)))))) when not not not not not not not not gap=7;pair 4 when 3<2;"));
    due("its price", 1, y.price(0, 0));
    due("its order", 1, y.orders(0));
    due("the second ahead", 1, y.where(0, 1, 0));
  }

  private static void fault(String text, int fault, int place) {
    BrokenFugue x = new BrokenFugue();
    due("«" + text + "» text", fault == 0 ? 0 : NONE, read(x, text));
    due("«" + text + "» fault", fault, x.fault(0));
    due("«" + text + "» place", place, x.fault(1));
  }

  private static void promise10Fault() {
    BrokenFugue x = new BrokenFugue();
    due("ahead of any", NONE, x.fault(0));
    due("place ahead of any", NONE, x.fault(1));
    read(x, "pair ;");
    due("fault", 1, x.fault(0));
    due("place", 5, x.fault(1));
    due("asked again", 1, x.fault(0));
    x.back();
    due("back leaves it", 1, x.fault(0));
    for (int bad : new int[] {LOWEST, -1, 2, HIGHEST}) {
      due("what", NONE, x.fault(bad));
    }
    read(x, "pair 1 when 1=1;");
    due("without", 0, x.fault(0));
    due("no place", NONE, x.fault(1));
    // A bar stands where the fault is due.
    for (String misplaced : new String[] {"|!", "|Pair 1 when 1=1;", "|1", "|;", "|gap", "|when",
        "|pairs 1 when 1=1;", "pair |when 1=1;", "pair |not 1 when 1=1;", "pair 1 |= 1 when 1=1;", "pair 1 |;",
        "pair 1 |2 when 1=1;", "pair 1 when 1|;", "pair 1 when |;", "pair 1 when 1=1|=1;", "pair 1 when 1< |=1;",
        "pair 1 when 1=1 |when 1=1;", "pair 1 when 1=1 and |and 1=1;", "pair 1 when 1=1 or |;",
        "pair 1 when 1 |or 2;", "pair 1 when (1|=1);", "pair (1 |when 1=1;", "pair 1|) when 1=1;",
        "pair 1+|*2 when 1=1;", "pair 1 |gap when 1=1;", "pair 1 when 1+|not 1=1;", "pair 1 when 1=|not 1;",
        "pair 1 when (|not 1=1);", "pair 1 when not (1|=1);", "pair 1 when 1=1|", "pair 1 when 1=1  |",
        "pair 1 when|", "pair|", "pair 1 when 1=1; |pear", "line 1 when |foo=1;", "ahead 1 |when 1=1;", "ahead 1=1|",
        "pair (|);", "pair 1 when 1|!=2;", "pair 1 when 1>=|>2;", "pair 1 |\t when 1=1;", "pair 1 |\r when 1=1;",
        "pair 1 when gap=1 |gap;", "pair 1 when 1=1 |1000;", "pair 1 when 1=1 |step;", "pair 1 when gap |1=1;",
        "pair 1 when |pair", "pair 1 |\u00e9 when 1=1;", "pair 1 when 1=1;|+", "pair - |when 1=1;",
        "pair 1 |( 2 ) when 1=1;", "beside number|;", "pair 1 when 1=1|\0;", "pair 1 |_ when 1=1;"}) {
      fault(misplaced.replace("|", ""), 1, misplaced.indexOf('|'));
    }
    fault("pair 999 when 1=1;", 0, NONE);
    fault("pair 0000000999 when 1=1;", 0, NONE);
    fault("pair 1000 when 1=1;", 2, 5);
    fault("pair 1 when gap<99999999999999999999999;", 2, 16);
    fault("pair 1 when gap<4294967297;", 2, 16);
    fault("pair ((((((((1)))))))) when 1=1;", 0, NONE);
    fault("pair (((((((((1))))))))) when 1=1;", 3, 13);
    fault("pair --------1 when 1=1;", 0, NONE);
    fault("pair ---------1 when 1=1;", 3, 13);
    fault("ahead not not not not not not not not 1=1;", 0, NONE);
    fault("ahead not not not not not not not not not 1=1;", 3, 38);
    fault("ahead not not not -(-(-(1)))=1;", 3, 23);
    fault("ahead not not -(-(-(1)))=-(-(-1));", 0, NONE);
    fault("ahead not not not not 1=((((1)))) and not not not not ((((1))))=1 or 1=((((((((1))))))));", 0, NONE);
    fault("ahead not 1=1 and 1=((((((((1))))))));", 0, NONE);
    fault("ahead not 1=1 and not 1=((((((((1))))))));", 3, 31);
    fault("pair -1-1-1-1-1-1-1-1-1-1 when 1=1;", 0, NONE);
    fault("pair -1*-1*-1*-1*-1*-1*-1*-1*-1*-1 when 1=1;", 0, NONE);
    fault("pair (1)+(1)+(1)+(1)+(1)+(1)+(1)+(1)+(1)+(1) when 1=1;", 0, NONE);
    fault("pair -(1)-(-(1)-(-(1)-(-1))) when 1=1;", 0, NONE);
    fault("pair step when 1=1;", 4, 5);
    fault("pair 1 when last=1;", 4, 12);
    fault("pair 1 when pitch=1;", 4, 12);
    fault("pair 1 when rest=1;", 4, 12);
    fault("pair 1 when number=1;", 4, 12);
    fault("pair 1 when sizeb=1;", 4, 12);
    for (String name : new String[] {"gap", "was", "mine", "yours", "low", "high", "cross", "hold", "ink", "rulingb"}) {
      fault("line 1 when " + name + "=1;", 4, 12);
    }
    for (String name : new String[] {"gap", "hold", "place", "step", "rest"}) {
      fault("ahead " + name + "=1;", 4, 6);
      fault("beside 1=" + name + ";", 4, 9);
    }
    fault("line place when place=1;pair place when place=1;", 0, NONE);
    String ten = "ahead 1=1;ahead 1=1;ahead 1=1;ahead 1=1;ahead 1=1;ahead 1=1;ahead 1=1;ahead 1=1;ahead 1=1;ahead 1=1;";
    fault(ten + " \n", 0, NONE);
    fault(ten + " beside gap", 5, 101);
    fault(ten + "+", 1, 100);
    // The first as tokens are come to, whatever the numbers of later ones.
    fault("pair step when 1000=1;+", 4, 5);
  }

  private static void sum(String sum, int value) {
    BrokenFugue x = new BrokenFugue();
    x.note(0, 0, 0, 30, 1);
    x.note(0, 1, 0, 23, 1);
    due("«" + sum + "» text", 0, read(x, "pair 1 when (" + sum + ")=" + (value < 0 ? "-" : "") + Math.abs(value) + ";"));
    due("«" + sum + "»", 1, x.price(0, 0));
  }

  private static void promise11Price() {
    sum("1+2*3", 7);
    sum("7-2-1", 4);
    sum("12/2/3", 2);
    sum("12/5*5", 10);
    sum("-7/2", -3);
    sum("7/-2", -3);
    sum("5/0", 0);
    sum("-5*-5", 25);
    sum("-2*3", -6);
    sum("(1+2)*3", 9);
    sum("-(2+3)", -5);
    sum("--4", 4);
    sum("2*-3+1", -5);
    // Above 1000000 it is that, at each step, and below the same less.
    sum("999*999*999/10/200", 500);
    sum("(0-999*999*999)/10/200", -500);
    sum("-999*999*999/10/200", -500);
    sum("(999*999+999+999+999-999*999)/2", 999);
    sum("(-(999*999)-999-999-999+999*999)/2", -999);
    sum("999*999/999-999", 0);
    sum("2*-(3-5)*2+-1", 7);
    sum("-(2)*-(3)--4/-2", 4);
    sum("20-2*3-8/4/2", 13);
    sum("100/(2+3)*-2+(4-(5-(6-7)))", -42);
    BrokenFugue x = new BrokenFugue();
    x.note(0, 0, 0, 30, 2);
    x.note(0, 0, 2, 37, 1);
    x.note(0, 1, 0, 33, 1);
    x.note(0, 1, 1, 26, 3);
    due("all names of pair", 0, read(x, "pair gap+1 when was=3 and mine=0 and yours=-7 and low=26 and high=30 and cross=0"
        + " and hold=0 and place=1;pair 100 when cross=1 and was=-1 and hold=0 and mine=0 and yours=0;"
        + "pair 500 when mine=7 and yours=0 and gap=11 and was=4;"));
    due("of all together", 605, x.price(0, 0));
    due("what turns at 999", 1, read(x, "pair 999+gap when 1=1;"));
    due("999 at most", 3 * 999, x.price(1, 0));
    due("what turns at 0", 2, read(x, "pair 0-gap when 1=1;"));
    due("0 at least", 0, x.price(2, 0));
    due("hold", 3, read(x, "pair 1 when hold=1;"));
    due("neither begins", 0, x.price(3, 0));
    x.note(0, 0, 1, 37, 8);
    due("neither begins twice", 2, x.price(3, 0));
    sing(x, 1, 2, 3, 20, 22, NONE, NONE, 25, 24);
    x.note(1, 2, 9, 24, 2);
    due("names of line", 4, read(x, "line 1 when step=2 and last=0 and pitch=22 and rest=0 and place=0;"
        + "line 10 when step=3 and last=2 and pitch=25 and rest=2 and place=3;"
        + "line 100 when step=-1 and last=3 and pitch=24 and rest=0;line 400 when step=0 and last=-1;ahead 1=1;"));
    due("each once", 511, x.price(4, 1));
    due("no break at a first note or a held beat", 5, read(x, "line 1 when 1=1;"));
    due("as many as begin behind", 4, x.price(5, 1));
    due("without notes", 0, x.price(5, 2));
    x.back();
    x.note(3, 2, 0, 9, 1);
    x.note(3, 3, 0, 9, 1);
    read(x, "pair 100 when cross=1;");
    due("unison is no crossing", 0, x.price(0, 3));
    x.note(3, 3, 0, 10, 1);
    due("crossing", 100, x.price(0, 3));
    for (int bad : new int[] {LOWEST, -1, 1, 6, HIGHEST}) {
      due("text", NONE, x.price(bad, 0));
    }
    for (int bad : new int[] {LOWEST, -1, 4, HIGHEST}) {
      due("piece", NONE, x.price(0, bad));
    }
    x.back();
    due("a text that is no more", NONE, x.price(0, 0));
  }

  private static void promise11Logic() {
    BrokenFugue x = new BrokenFugue();
    x.note(0, 0, 0, 30, 1);
    x.note(0, 1, 0, 23, 1);
    String[] so = {"1=1 or 1=1 and 1=2", "1=2 and 1=1 or 1=1", "not 1=2", "not not 1=1", "not 1=2 and 1=1",
        "not 1=1 or 1=1", "1<2", "2<=2", "2>1", "2>=2", "1#2", "gap=7 and low=23 and high=30"};
    for (String sign : new String[] {"<", "<=", ">", ">=", "=", "#"}) {
      comparison(sign);
    }
    String[] not = {"1=2 or 1=1 and 1=2", "not 1=1", "not 1=2 and 1=2", "2<2", "3<=2", "2>2", "1>=2", "2#2",
        "1=1 and 1=2 or 1=2"};
    x.image();
    for (String asks : so) {
      x.back();
      read(x, "pair 3 when " + asks + ";");
      due(asks, 3, x.price(0, 0));
    }
    for (String asks : not) {
      x.back();
      read(x, "pair 3 when " + asks + ";");
      due(asks, 0, x.price(0, 0));
      due(asks + " breaks", 0, x.breaks(0, 0, NONE, 0));
    }
  }

  /** One comparison of sums on both sides, within all that can lie around it. */
  private static void comparison(String sign) {
    BrokenFugue x = new BrokenFugue();
    x.note(0, 0, 0, 30, 1);
    x.note(0, 1, 0, 23, 1);
    x.image();
    for (int difference = -1; difference <= 1; difference++) {
      boolean so = switch (sign) {
        case "<" -> difference < 0;
        case "<=" -> difference <= 0;
        case ">" -> difference > 0;
        case ">=" -> difference >= 0;
        case "=" -> difference == 0;
        default -> difference != 0;
      };
      String asks = "2*3+1*" + (4 + difference) + "-2" + sign + "16-4*2+0/5";
      for (String around : new String[] {"?", "? and 1=1", "1=1 and ?", "? or 1=2", "1=2 or ?", "not not ?",
          "1=2 or not not ? and not 1=2 or 2=1", "not 1=1 or ?", "? and ?", "? or ?"}) {
        x.back();
        due(around, 0, read(x, "pair 3 when " + around.replace("?", asks) + ";"));
        due(around.replace("?", asks), so ? 3 : 0, x.price(0, 0));
      }
      for (String around : new String[] {"not ?", "not ? and 1=1", "1=2 or not ?", "not ? or not ?"}) {
        x.back();
        read(x, "pair 3 when " + around.replace("?", asks) + ";");
        due(around.replace("?", asks), so ? 0 : 3, x.price(0, 0));
      }
    }
  }

  private static void oneBreak(BrokenFugue x, int i, int... all) {
    for (int what = 0; what < 5; what++) {
      due("break " + i + " what " + what, all[what], x.breaks(0, 0, i, what));
    }
  }

  private static void promise12Breaks() {
    BrokenFugue x = new BrokenFugue();
    x.note(0, 0, 0, 40, 1);
    x.note(0, 1, 0, 30, 1);
    x.note(0, 3, 0, 20, 2);
    x.note(0, 0, 1, 41, 1);
    x.note(0, 3, 2, 22, 1);
    read(x, "line pitch when 1=1;ahead 1=1;pair gap when gap>10;pair 0 when 1=1;line 2 when step>1;");
    due("how many", 9, x.breaks(0, 0, NONE, 0));
    due("whatever what is", 9, x.breaks(0, 0, NONE, HIGHEST));
    due("or below", 9, x.breaks(0, 0, NONE, LOWEST));
    oneBreak(x, 0, 0, 0, 1, 3, 0);
    oneBreak(x, 1, 0, 0, 3, 2, 20);
    oneBreak(x, 2, 0, 0, 3, 3, 0);
    oneBreak(x, 3, 0, 1, 3, 3, 0);
    oneBreak(x, 4, 1, 0, 3, 2, 21);
    oneBreak(x, 5, 1, 0, 3, 3, 0);
    oneBreak(x, 6, 1, 0, NONE, 0, 41);
    oneBreak(x, 7, 2, 3, NONE, 0, 22);
    oneBreak(x, 8, 2, 3, NONE, 4, 2);
    due("no more", NONE, x.breaks(0, 0, 9, 0));
    x.note(0, 1, 1, 33, 1);
    oneBreak(x, 9, 1, 0, NONE, 0, 41);
    oneBreak(x, 10, 1, 1, NONE, 0, 33);
    oneBreak(x, 11, 1, 1, NONE, 4, 2);
    oneBreak(x, 13, 2, 3, NONE, 4, 2);
    due("none such", NONE, x.breaks(0, 0, 14, 0));
    for (int bad : new int[] {LOWEST, -2, HIGHEST}) {
      due("i", NONE, x.breaks(0, 0, bad, 0));
    }
    for (int bad : new int[] {LOWEST, -1, 5, HIGHEST}) {
      due("what", NONE, x.breaks(0, 0, 0, bad));
      due("text", NONE, x.breaks(bad, 0, NONE, 0));
      due("piece", NONE, x.breaks(0, bad, NONE, 0));
    }
    due("no breaks", 0, x.breaks(0, 2, NONE, 0));
    due("none first", NONE, x.breaks(0, 2, 0, 0));
  }

  private static void promise13Fit() {
    BrokenFugue x = new BrokenFugue();
    subjectOf(x, 0, 0, 2);
    x.subject(1, 0, 3, 1);
    x.subject(1, 1, 5, 2);
    // One sounds 30, 32; the other 33, 35, held: gaps 3, 3.
    read(x, "pair gap when 1=1;line 100+pitch when 1=1;");
    due("as it is", 3 + 3 + 132 + 135, x.fit(0, 0, 1, 0, 0, false, 1));
    due("up", 15 + 15 + 132 + 147, x.fit(0, 0, 1, 12, 0, false, 1));
    due("down", 9 + 9 + 132 + 123, x.fit(0, 0, 1, -12, 0, false, 1));
    due("later", 1 + 132 + 135, x.fit(0, 0, 1, 0, 1, false, 1));
    due("latest", 132 + 135, x.fit(0, 0, 1, 0, 8, false, 1));
    due("turned", 3 + 7 + 132 + 125, x.fit(0, 0, 1, 0, 0, true, 1));
    due("turned and up", 1 + 5 + 132 + 127, x.fit(0, 0, 1, 2, 0, true, 1));
    due("stretched", 3 + 1 + 132 + 135, x.fit(0, 0, 1, 0, 0, false, 2));
    due("the other way round", 3 + 3 + 132 + 135, x.fit(0, 1, 0, 0, 0, false, 1));
    due("of itself", 132 + 132, x.fit(0, 0, 0, 0, 0, false, 1));
    read(x, "pair 1 when hold=1;pair 10 when cross=1;pair 100 when yours#0;line 7 when place=0;");
    x.subject(2, 0, 0, 4);
    x.subject(3, 0, 1, 4);
    x.subject(3, 2, 1, 2);
    due("held beats are held", 2 + 40, x.fit(1, 2, 3, 0, 0, false, 1));
    due("stretched ones too", 3 + 40 + 7, x.fit(1, 2, 3, 0, 0, false, 2));
    subjectOf(x, 4, 0, 1, 2, 3, 4, 5, 6, 7, 8, 9, 10, 11);
    // One begins at 4 and 8, the other at 12, 16 .. 28; at 10 it goes up while both sound.
    due("the last beats sound", 2 * 7 + 5 * 7 + 100, x.fit(1, 4, 4, 0, 8, false, 2));
    x.bar(2);
    due("by the bar", 2 + 40 + 7, x.fit(1, 2, 3, 0, 0, false, 1));
    for (int bad : new int[] {LOWEST, -1, 2, HIGHEST}) {
      due("text", NONE, x.fit(bad, 0, 1, 0, 0, false, 1));
    }
    for (int bad : new int[] {LOWEST, -1, 5, 6, HIGHEST}) {
      due("one", NONE, x.fit(0, bad, 1, 0, 0, false, 1));
      due("other", NONE, x.fit(0, 0, bad, 0, 0, false, 1));
    }
    for (int bad : new int[] {LOWEST, -13, 13, HIGHEST}) {
      due("h", NONE, x.fit(0, 0, 1, bad, 0, false, 1));
    }
    for (int bad : new int[] {LOWEST, -1, 9, HIGHEST}) {
      due("d", NONE, x.fit(0, 0, 1, 0, bad, false, 1));
    }
    for (int bad : new int[] {LOWEST, 0, 3, HIGHEST}) {
      due("m", NONE, x.fit(0, 0, 1, 0, 0, false, bad));
    }
  }

  private static void promise14Fits() {
    BrokenFugue x = new BrokenFugue();
    subjectOf(x, 0, 0);
    subjectOf(x, 1, 2);
    // Alone where d is 0 they sound together: the gap is |h + 2|, |h - 2| when turned.
    read(x, "pair gap when 1=1;");
    due("all", 900, x.fits(0, 0, 1, 1000000, NONE));
    due("at price 0", 4 * 8 * 25 + 4, x.fits(0, 0, 1, 0, NONE));
    due("at price 1", 4 * 8 * 25 + 12, x.fits(0, 0, 1, 1, NONE));
    due("at price 13", 4 * 8 * 25 + 4 * 24, x.fits(0, 0, 1, 13, NONE));
    due("at price 14", 900, x.fits(0, 0, 1, 14, NONE));
    due("first", 10, x.fits(0, 0, 1, 0, 0));
    due("second", 100, x.fits(0, 0, 1, 0, 1));
    due("last of the plain", 824, x.fits(0, 0, 1, 0, 200));
    due("first turned", 5014, x.fits(0, 0, 1, 0, 201));
    due("first stretched", 10010, x.fits(0, 0, 1, 0, 402));
    due("first turned and stretched", 15014, x.fits(0, 0, 1, 0, 603));
    due("last", 15824, x.fits(0, 0, 1, 0, 803));
    due("no more", NONE, x.fits(0, 0, 1, 0, 804));
    due("beyond all", NONE, x.fits(0, 0, 1, 1000000, 900));
    for (int bad : new int[] {LOWEST, -2, HIGHEST}) {
      due("i", NONE, x.fits(0, 0, 1, 0, bad));
    }
    for (int bad : new int[] {LOWEST, -1, 1000001, HIGHEST}) {
      due("limit", NONE, x.fits(0, 0, 1, bad, NONE));
    }
    for (int bad : new int[] {LOWEST, -1, 2, 6, HIGHEST}) {
      due("text", NONE, x.fits(bad, 0, 1, 0, NONE));
      due("one", NONE, x.fits(0, bad, 1, 0, NONE));
      due("other", NONE, x.fits(0, 0, bad, 0, NONE));
    }
    read(x, "pair 1 when 1=1;line 1 when 2=1;");
    subjectOf(x, 0, 0, 0, 0, 0, 0, 0, 0, 0, 0, 0, 0, 0);
    due("none at 0", 0, x.fits(1, 0, 1, 0, NONE));
    due("no first", NONE, x.fits(1, 0, 1, 0, 0));
  }

  private static void promise15Cheapest() {
    BrokenFugue x = new BrokenFugue();
    subjectOf(x, 0, 0, 0, 0, 0, 0, 0, 0, 0, 0, 0, 0, 0);
    subjectOf(x, 1, 2);
    // Wherever it comes, it sounds together with the other; stretched it does so twice.
    read(x, "pair gap-3 when gap>5;pair 5 when gap<6;");
    due("price", 3, x.cheapest(0, 0, 1, 0));
    due("the first of that price", 4, x.cheapest(0, 0, 1, 1));
    read(x, "pair 30-high when 1=1;pair 3*(32-low) when low<32;pair 9 when place#2;");
    // The lower one is the first's 30 at most, which costs 6: so from h -2 on, where the place is 2.
    due("price by place", 6, x.cheapest(1, 0, 1, 0));
    due("form by place", 210, x.cheapest(1, 0, 1, 1));
    read(x, "line 5 when 1=1;");
    due("lines of both", 55, x.cheapest(2, 0, 1, 0));
    due("first of all", 0, x.cheapest(2, 0, 1, 1));
    read(x, "pair 7 when hold=0;pair 1 when cross=0 or gap#3;");
    due("price", 7, x.cheapest(3, 0, 1, 0));
    due("where they cross by 3", 13, x.cheapest(3, 0, 1, 1));
    subjectOf(x, 2, 0, 5, -100, 10);
    read(x, "line 1 when step=5;");
    due("turned price", 0, x.cheapest(4, 0, 2, 0));
    due("turned", 5000, x.cheapest(4, 0, 2, 1));
    read(x, "line 1 when rest=1;");
    due("stretched price", 0, x.cheapest(5, 0, 2, 0));
    due("stretched", 10000, x.cheapest(5, 0, 2, 1));
    for (int bad : new int[] {LOWEST, -1, 2, HIGHEST}) {
      due("what", NONE, x.cheapest(0, 0, 1, bad));
    }
    for (int bad : new int[] {LOWEST, -1, 4, 6, HIGHEST}) {
      due("text", NONE, x.cheapest(bad < 0 ? bad : bad + 2, 0, 1, 0));
      due("one", NONE, x.cheapest(0, bad, 1, 0));
      due("other", NONE, x.cheapest(0, 0, bad, 0));
    }
  }

  private static void promise16Three() {
    BrokenFugue x = new BrokenFugue();
    subjectOf(x, 0, 0, 0, 0, 0, 0, 0, 0, 0, 0, 0, 0, 0);
    subjectOf(x, 1, 2);
    subjectOf(x, 2, 9);
    // The first stays on 30; the second sounds 27 .. 37 (turned 23 .. 33), the third 34 .. 44 (turned 16 .. 26).
    read(x, "pair 8 when gap<4;pair 1 when gap#4 and gap#7;");
    due("price", 0, x.three(0, 0, 1, 2, 0));
    due("second on 34", 14, x.three(0, 0, 1, 2, 1));
    due("third on 34, a beat later", 107, x.three(0, 0, 1, 2, 2));
    due("the others' places changed", 0, x.three(0, 0, 2, 1, 0));
    due("second on 34 then", 7, x.three(0, 0, 2, 1, 1));
    due("third on 34 then", 114, x.three(0, 0, 2, 1, 2));
    // All at beat 1: not all three gaps can be 4 or 7.
    read(x, "pair 8 when gap<4;pair 1 when gap#4 and gap#7;pair 50 when place#1;");
    due("together", 1, x.three(1, 0, 1, 2, 0));
    due("second on 34 at 1", 114, x.three(1, 0, 1, 2, 1));
    due("third on 38 at 1", 111, x.three(1, 0, 1, 2, 2));
    // Turned alone the second is far enough below the first, and the third below both.
    read(x, "pair 9 when cross=1;pair 1 when gap#4 and gap#7 and gap#11;pair 50 when place#3;");
    due("below", 0, x.three(2, 0, 1, 2, 0));
    due("second on 23", 5307, x.three(2, 0, 1, 2, 1));
    due("third on 19", 5310, x.three(2, 0, 1, 2, 2));
    read(x, "line 3 when 1=1;pair 100 when gap>12;");
    subjectOf(x, 2, 9, 8);
    due("lines of all", 33 + 3, x.three(3, 0, 1, 2, 0));
    due("first second", 7, x.three(3, 0, 1, 2, 1));
    due("first third", 7, x.three(3, 0, 1, 2, 2));
    // Only turned, at 3, and up by 5 are they so far up; the third never comes to 33.
    subjectOf(x, 0, 0, 0, 0, 0, 0, 0, 0, 0, 0, 0, 0, 0);
    subjectOf(x, 1, 2, 4);
    subjectOf(x, 2, 9, 13);
    x.bar(12);
    read(x, "line 20 when step>0;pair 9 when place<3;pair 9 when high<33 and place=3;pair 9 when low<26 and place=3;");
    due("the last forms' price", 9, x.three(4, 0, 1, 2, 0));
    due("the last second", 5317, x.three(4, 0, 1, 2, 1));
    due("the last third", 5317, x.three(4, 0, 1, 2, 2));
    due("what 3", NONE, x.three(0, 0, 1, 2, 3));
    due("two alike", NONE, x.three(0, 0, 0, 2, 0));
    due("first and third alike", NONE, x.three(0, 0, 1, 0, 0));
    due("the others alike", NONE, x.three(0, 0, 1, 1, 0));
    for (int bad : new int[] {LOWEST, -1, 5, HIGHEST}) {
      due("what", NONE, x.three(0, 0, 1, 2, bad));
      due("text", NONE, x.three(bad, 0, 1, 2, 0));
      due("one", NONE, x.three(0, bad, 1, 2, 0));
      due("two", NONE, x.three(0, 0, bad, 2, 0));
      due("third", NONE, x.three(0, 0, 1, bad, 0));
    }
  }

  private static void promise17Chance() {
    BrokenFugue x = new BrokenFugue();
    subjectOf(x, 0, 0);
    subjectOf(x, 1, 0, 1, 3, -100, 6);
    // Changes 1, 2, 3: lines cost nothing in this order alone, and never if it is turned.
    read(x, "line 1 when last=0 and step#1;line 1 when last=1 and step#2;line 1 when last=2 and step#3;");
    // i = 2 and 1 at seed 0: X = 0 changes 2nd and 0th: 3, 2, 1; X = 17 leaves the 1st.
    due("seed 0", 0, x.chance(0, 0, 1, 0, 1, 0));
    // Seed 2: 2 mod 3 leaves the last; X = 279 mod 2 = 1 leaves the rest.
    due("seed 2", 1, x.chance(0, 0, 1, 0, 1, 2));
    // Seed 5: 5 mod 3 = 2; X = 672 mod 2 = 0: 2, 1, 3.
    due("seed 5", 0, x.chance(0, 0, 1, 0, 1, 5));
    int odds = 0;
    for (int k = 0; k < 9; k++) {
      int seed = 2 + 1000 * k;
      odds += seed % 3 == 2 && (seed * 131 + 17) % 30013 % 2 == 1 ? 1 : 0;
    }
    due("a thousand on each time", odds, x.chance(0, 0, 1, 0, 9, 2));
    due("all of them at 3", 9, x.chance(0, 0, 1, 3, 9, 2));
    // Two changes of 40 up behind one another go beyond what subjects hold: they sound all the same, and turned over
    // 20, 60, 20 comes to 10, -30, 10. Wherever else the fall is, a note lies about 50.
    subjectOf(x, 2, -20, 20, -20, 20);
    read(x, "line 1 when pitch>18 and pitch<91;");
    for (int n = 1; n <= 40; n++) {
      odds = 0;
      for (int k = 0; k < n; k++) {
        // 1 of 0 .. 2: the fall in the midst changes places with the last.
        odds += (9000 + 1000 * k) % 3 == 1 ? 1 : 0;
      }
      due("steep " + n, odds, x.chance(1, 0, 2, 0, n, 9000));
    }
    subjectOf(x, 3, 5);
    due("one note alone", 40, x.chance(1, 0, 3, 0, 40, 0));
    for (int bad : new int[] {LOWEST, -1, 1000001, HIGHEST}) {
      due("limit", NONE, x.chance(0, 0, 1, bad, 1, 0));
    }
    due("greatest limit", 3, x.chance(0, 0, 1, 1000000, 3, 0));
    for (int bad : new int[] {LOWEST, 0, 41, HIGHEST}) {
      due("n", NONE, x.chance(0, 0, 1, 0, bad, 0));
    }
    for (int bad : new int[] {LOWEST, -1, 10000, HIGHEST}) {
      due("seed", NONE, x.chance(0, 0, 1, 0, 1, bad));
    }
    for (int bad : new int[] {LOWEST, -1, 4, 6, HIGHEST}) {
      due("text", NONE, x.chance(bad, 0, 1, 0, 1, 0));
      due("one", NONE, x.chance(0, bad, 1, 0, 1, 0));
      due("other", NONE, x.chance(0, 0, bad, 0, 1, 0));
    }
    due("the subject stays as it is", 5, x.about(31));
    due("greatest seed", 40, x.chance(1, 0, 3, 0, 40, 9999));
    // The one sounds as it is, from the first such call on.
    BrokenFugue z = new BrokenFugue();
    read(z, "pair 1 when 1=1;");
    subjectOf(z, 0, 0, 0, 0, 0, 0, 0, 0, 0, 0, 0, 0, 0);
    subjectOf(z, 1, 5);
    due("together at each delay", 0, z.chance(0, 0, 1, 0, 7, 3));
    due("for 1", 7, z.chance(0, 0, 1, 1, 7, 3));
    // X goes 1234, 11606, 19753, 6542: mod 5, 4, 3, 2 that is 4, 2, 1, 0. So 1, 2, 4, 8, 16 becomes 8, 1, 2, 4, 16.
    BrokenFugue y = new BrokenFugue();
    read(y, "line 1 when last=0 and step#8;line 1 when last=8 and step#1;line 1 when last=1 and step#2;"
        + "line 1 when last=2 and step#4;line 1 when last=4 and step#16;line 1 when last>8;");
    subjectOf(y, 0, 0);
    subjectOf(y, 1, -20, -19, -100, -17, -13, -5, 11);
    y.subject(1, 7, 11, 4);
    y.subject(1, 7, -100, 1);
    y.subject(1, 8, -100, 4);
    due("five changes", 1, y.chance(0, 0, 1, 0, 1, 1234));
    due("the row of another seed", 0, y.chance(0, 0, 1, 0, 1, 1235));
    subjectOf(y, 2, 0, 8, 9, 11, 15, 17, 1);
    due("of another", 0, y.chance(0, 1, 2, 0, 1, 1234));
  }

  private static void promise18Seen() {
    BrokenFugue x = new BrokenFugue();
    sing(x, 0, 0, 0, 10, 22, 35, 10, NONE, 11);
    sing(x, 0, 1, 0, 10, 22);
    sing(x, 1, 3, 0, 50, 30, 18);
    x.note(3, 0, 0, 20, 2);
    x.note(3, 0, 2, 20, 8);
    due("12 and beyond", 3, x.seen(1, 12));
    due("-12 and beyond", 1, x.seen(1, -12));
    due("over a rest", 1, x.seen(1, 1));
    due("two pieces", 3, x.seen(3, -12));
    due("another", 2, x.seen(2, -12));
    due("held beats are no steps", 1, x.seen(8, 0));
    due("all", 1, x.seen(15, 0));
    due("an empty piece", 0, x.seen(4, 0));
    due("no pieces", 0, x.seen(0, 0));
    for (int bad : new int[] {LOWEST, -1, 16, HIGHEST}) {
      due("set", NONE, x.seen(bad, 0));
    }
    for (int bad : new int[] {LOWEST, -13, 13, HIGHEST}) {
      due("step", NONE, x.seen(15, bad));
    }
  }

  private static void promise19Strange() {
    BrokenFugue x = new BrokenFugue();
    sing(x, 1, 0, 0, 20, 22, 24, 26, 25, 26);
    // Seen: 2 thrice, -1 once, 1 once.
    sing(x, 0, 2, 0, 10, 12, 11, 5);
    // 0, 1000 - 333, 1000: 1667 / 3.
    due("strange", 555, x.strange(2, 0));
    due("itself never counts", 555, x.strange(3, 0));
    due("nor alone", NONE, x.strange(1, 0));
    due("the others have none", NONE, x.strange(4, 0));
    due("no pieces", NONE, x.strange(0, 0));
    due("it has none", NONE, x.strange(3, 2));
    x.note(2, 0, 0, 10, 1);
    due("one note is no step", NONE, x.strange(3, 2));
    x.note(2, 1, 0, 10, 1);
    x.note(2, 1, 1, 12, 1);
    due("as most are", 0, x.strange(3, 2));
    // With piece 2: 2 four times; -1, 1 once: 1000 - 250.
    due("more of them", (0 + 750 + 1000) / 3, x.strange(6, 0));
    // A fall of 20 counts as 12 down, first of the steps.
    BrokenFugue y = new BrokenFugue();
    sing(y, 0, 0, 0, 40, 20);
    sing(y, 1, 0, 0, 50, 30, 31);
    due("seen as 12 down", 0, y.strange(2, 0));
    due("two steps", 500, y.strange(1, 1));
    for (int bad : new int[] {LOWEST, -1, 16, HIGHEST}) {
      due("set", NONE, x.strange(bad, 0));
      due("piece", NONE, x.strange(2, bad));
    }
    due("piece 4", NONE, x.strange(2, 4));
  }

  private static void promise20Follows() {
    BrokenFugue x = new BrokenFugue();
    // Behind 2: 2, -1, then 3; behind 3: -20 (as -12).
    sing(x, 1, 0, 0, 20, 22, 24, 23);
    sing(x, 1, 1, 0, 20, 22, 25, 5);
    sing(x, 0, 3, 0, 40, 42);
    due("a step up", 333, x.follows(2, 0, 3, 44));
    due("a step down", 333, x.follows(2, 0, 3, 41));
    due("another", 333, x.follows(2, 0, 3, 45));
    due("none so", 0, x.follows(2, 0, 3, 42));
    due("itself counts where it is in the set", 333, x.follows(3, 0, 3, 44));
    x.note(0, 3, 2, 45, 3);
    due("behind 3", 1000, x.follows(2, 0, 3, 20));
    due("beyond as 12 down", 1000, x.follows(2, 0, 3, 33));
    due("11 down", 0, x.follows(2, 0, 3, 34));
    due("0", 1000, x.follows(2, 0, 3, 0));
    due("60 is up", 0, x.follows(2, 0, 3, 60));
    // Its own row makes 3 behind 2 twice, of four.
    sing(x, 2, 0, 0, 1, 3);
    due("with its own", 500, x.follows(3, 2, 0, 6));
    due("nothing behind its step", NONE, x.follows(2, 1, 0, 10));
    due("no pieces", NONE, x.follows(0, 0, 3, 10));
    x.note(3, 0, 0, 10, 4);
    due("one note", NONE, x.follows(2, 3, 0, 10));
    due("no note", NONE, x.follows(2, 3, 1, 10));
    // Steps behind one another are of one voice alone.
    BrokenFugue y = new BrokenFugue();
    sing(y, 0, 0, 0, 10, 12);
    sing(y, 0, 1, 0, 10, 13);
    due("no voice goes on in another", NONE, y.follows(1, 0, 0, 15));
    // A step beyond 12 is as 12 behind it too.
    sing(y, 1, 0, 0, 10, 30, 31);
    sing(y, 2, 0, 0, 10, 22);
    due("behind a great step", 1000, y.follows(2, 2, 0, 23));
    for (int bad : new int[] {LOWEST, -1, 16, HIGHEST}) {
      due("set", NONE, x.follows(bad, 0, 3, 20));
    }
    for (int bad : new int[] {LOWEST, -1, 4, HIGHEST}) {
      due("piece", NONE, x.follows(2, bad, 3, 20));
      due("voice", NONE, x.follows(2, 0, bad, 20));
    }
    for (int bad : new int[] {LOWEST, -1, 61, HIGHEST}) {
      due("pitch", NONE, x.follows(2, 0, 3, bad));
    }
  }

  private static void promise21Never() {
    BrokenFugue x = new BrokenFugue();
    sing(x, 1, 0, 0, 20, 22, 21, 41);
    x.note(0, 0, 0, 30, 2);
    // Seen: 2, -1, 12: 32, 29, 42 .. 60.
    due("behind 30", 61 - 1 - 1 - 19, x.never(2, 0, 0));
    x.note(0, 0, 4, 60, 1);
    due("behind 60", 61 - 1, x.never(2, 0, 0));
    x.note(0, 0, 4, 0, 1);
    due("behind 0", 61 - 1 - 49, x.never(2, 0, 0));
    due("no pieces", 61, x.never(0, 0, 0));
    due("none learnt", 61, x.never(4, 0, 0));
    due("its own count where it is in the set", 61 - 1 - 49, x.never(3, 0, 0));
    due("no note", NONE, x.never(2, 0, 1));
    for (int bad : new int[] {LOWEST, -1, 16, HIGHEST}) {
      due("set", NONE, x.never(bad, 0, 0));
    }
    for (int bad : new int[] {LOWEST, -1, 4, HIGHEST}) {
      due("piece", NONE, x.never(2, bad, 0));
      due("voice", NONE, x.never(2, 0, bad));
    }
  }

  private static void promise22Hand() {
    BrokenFugue x = new BrokenFugue();
    due("set", true, x.hand(0, 3));
    due("told", 3, x.about(20));
    due("of another", true, x.hand(3, 0));
    due("told too", 0, x.about(23));
    due("none", true, x.hand(0, NONE));
    due("none told", NONE, x.about(20));
    for (int bad : new int[] {LOWEST, -2, 4, HIGHEST}) {
      due("hand", false, x.hand(3, bad));
    }
    for (int bad : new int[] {LOWEST, -1, 4, HIGHEST}) {
      due("piece", false, x.hand(bad, 0));
    }
    due("unchanged", 0, x.about(23));
  }

  private static void promise23Apart() {
    BrokenFugue x = new BrokenFugue();
    sing(x, 0, 0, 0, 10, 11, 12, 14);
    sing(x, 1, 0, 0, 10, 11, 9);
    sing(x, 2, 0, 0, 10, 30);
    // 1: 666, 2: 333 against 1: 500, -2: 500.
    due("apart", 166 + 333 + 500, x.apart(1, 2));
    due("either way", 166 + 333 + 500, x.apart(2, 1));
    due("alike", 0, x.apart(1, 1));
    due("nothing alike", 666 + 333 + 1000, x.apart(1, 4));
    // 1: 3 of 5, 2: 1 of 5, -2: 1 of 5.
    due("two pieces", 66 + 133 + 200, x.apart(3, 1));
    due("of one step", 666 + 333 + 1000, x.apart(4, 1));
    sing(x, 2, 0, 0, 30, 10);
    due("down as 12 down", 666 + 333 + 1000, x.apart(4, 1));
    due("no steps", NONE, x.apart(1, 8));
    due("none of one", NONE, x.apart(8, 1));
    due("no pieces", NONE, x.apart(0, 1));
    for (int bad : new int[] {LOWEST, -1, 16, HIGHEST}) {
      due("one", NONE, x.apart(bad, 1));
      due("other", NONE, x.apart(1, bad));
    }
  }

  private static void promise24Whose() {
    BrokenFugue x = new BrokenFugue();
    sing(x, 0, 0, 0, 10, 11, 12);
    sing(x, 1, 0, 0, 10, 11, 9);
    sing(x, 2, 0, 0, 10, 12);
    due("no hands", NONE, x.whose(0, 0));
    due("no hands, how far", NONE, x.whose(0, 1));
    x.hand(0, 0);
    due("itself never counts", NONE, x.whose(0, 0));
    x.hand(2, 1);
    due("the only one", 1, x.whose(0, 0));
    due("how far", 2000, x.whose(0, 1));
    x.hand(1, 3);
    due("a nearer one", 3, x.whose(0, 0));
    due("how far then", 1000, x.whose(0, 1));
    x.hand(1, 1);
    // 1: 333, -2: 333, 2: 333 against 1: 1000.
    due("both of one hand", 1, x.whose(0, 0));
    due("how far both", 667 + 333 + 333, x.whose(0, 1));
    x.copy(1, 3);
    x.hand(1, 2);
    x.hand(2, NONE);
    x.hand(3, 0);
    due("of like ones the lowest", 0, x.whose(0, 0));
    due("its distance", 1000, x.whose(0, 1));
    x.note(3, 0, 0, NONE, 8);
    due("those without steps don't count", 2, x.whose(0, 0));
    due("it has no steps", NONE, x.whose(3, 0));
    x.hand(0, 1);
    due("of the first piece", 1, x.whose(2, 0));
    due("how far from it", 2000, x.whose(2, 1));
    for (int bad : new int[] {LOWEST, -1, 4, HIGHEST}) {
      due("piece", NONE, x.whose(bad, 0));
    }
    for (int bad : new int[] {LOWEST, -1, 2, HIGHEST}) {
      due("what", NONE, x.whose(0, bad));
    }
  }

  private static void promise25Endings() {
    BrokenFugue x = new BrokenFugue();
    sing(x, 0, 0, 0, 10, 12, 14);
    x.copy(0, 1);
    x.copy(0, 2);
    x.copy(0, 3);
    sing(x, 1, 0, 3, 15, 17, 10);
    sing(x, 2, 0, 3, 16, 16);
    sing(x, 3, 1, 1, 40);
    // Steps of 1: 2, 2, 1, 2, -7; of 2: 2, 2, 2, 0; of 3: 2, 2.
    read(x, "line 10 when step=2;line 3 when step=1 or step=0;pair 100 when 1=1;");
    due("how many", 2, x.endings(0, 0, 0, 3, 0));
    due("its worth", 3 + 10, x.endings(0, 0, 0, 3, 11));
    due("worth of 2", 10 + 3, x.endings(0, 0, 0, 3, 12));
    due("of like ones the lowest", 1, x.endings(0, 0, 0, 3, 1));
    due("not as it", NONE, x.endings(0, 0, 0, 3, 13));
    due("not itself", NONE, x.endings(0, 0, 0, 3, 10));
    due("from 1 all", 3, x.endings(0, 0, 0, 1, 0));
    due("from 1", 10 + 10 + 100, x.endings(0, 0, 0, 1, 13));
    due("from 2 what sounds ahead counts", 2, x.endings(0, 0, 0, 2, 0));
    due("from 4", 0, x.endings(0, 0, 0, 4, 0));
    due("best of none", NONE, x.endings(0, 0, 0, 4, 1));
    due("worth of none", NONE, x.endings(0, 0, 0, 4, 11));
    // By piece 3 alone (2 twice): 1 is strange by 1000 - 600, 2 by 250.
    due("with strange", 13 + 400, x.endings(0, 8, 0, 3, 11));
    due("with strange of 2", 13 + 250, x.endings(0, 8, 0, 3, 12));
    due("best by strange", 2, x.endings(0, 8, 0, 3, 1));
    // By 1 itself: none.
    due("strange by itself is none", 13, x.endings(0, 2, 0, 3, 11));
    due("of another piece", 0, x.endings(0, 0, 1, 4, 0));
    due("worth by another's view", 20, x.endings(0, 0, 1, 0, 10));
    due("the first piece counts", 3, x.endings(0, 0, 1, 0, 0));
    due("the first piece is best", 0, x.endings(0, 0, 1, 0, 1));
    // Begun anew is not held on.
    x.note(2, 3, 0, 5, 2);
    x.note(0, 3, 0, 5, 1);
    x.note(0, 3, 1, 5, 1);
    due("held or begun", NONE, x.endings(0, 0, 0, 2, 12));
    due("alike ahead of that", 10 * 3 + 3 + 100, x.endings(0, 0, 0, 1, 12));
    for (int bad : new int[] {LOWEST, -1, 2, 9, 14, HIGHEST}) {
      due("what", NONE, x.endings(0, 0, 0, 0, bad));
    }
    for (int bad : new int[] {LOWEST, -1, 32, HIGHEST}) {
      due("k", NONE, x.endings(0, 0, 0, bad, 0));
      due("set", NONE, x.endings(0, bad, 0, 0, 0));
      due("text", NONE, x.endings(bad, 0, 0, 0, 0));
      due("piece", NONE, x.endings(0, 0, bad, 0, 0));
    }
    due("k 31", 0, x.endings(0, 15, 0, 31, 0));
    due("set 16", NONE, x.endings(0, 16, 0, 0, 0));
    due("piece 4", NONE, x.endings(0, 0, 4, 0, 0));
  }

  private static void promise26Made() {
    BrokenFugue x = new BrokenFugue();
    sing(x, 0, 0, 0, 30, 31);
    x.note(0, 1, 0, 20, 4);
    x.note(0, 2, 2, 40, 2);
    read(x, "line 1 when step=0;");
    due("price", 0, x.made(0, 0, 0, 3, NONE));
    due("lowest first", 24, x.made(0, 0, 0, 3, 0));
    due("then the second", 25, x.made(0, 0, 0, 3, 1));
    due("then the third", 24, x.made(0, 0, 0, 3, 2));
    read(x, "line 50 when step<3;line 1 when place#0;pair gap when gap>1;");
    // Three steps up of 3 at least end within 7 above: two can, three can't.
    due("one", 1 + Math.abs(34 - 20) + Math.abs(40 - 34), x.made(1, 0, 0, 1, NONE));
    due("its pitch", 34, x.made(1, 0, 0, 1, 0));
    due("two", 2 + 20 + 20, x.made(1, 0, 0, 2, NONE));
    due("pitch 0", 34, x.made(1, 0, 0, 2, 0));
    due("pitch 1", 37, x.made(1, 0, 0, 2, 1));
    due("three", 2 + 40 + 50, x.made(1, 0, 0, 3, NONE));
    due("one may cost, so the first", 24, x.made(1, 0, 0, 3, 0));
    due("then 3 up", 27, x.made(1, 0, 0, 3, 1));
    due("and 3 up", 30, x.made(1, 0, 0, 3, 2));
    due("nothing is written", NONE, x.at(0, 0, 2));
    // What comes ahead of the first made note: its step and those behind.
    read(x, "line 5 when last=1 and step#2;line 5 when last=2 and step#0-3;line 5 when last=0-3 and step#4;line 1 when place=3");
    due("a faulty one is none", NONE, x.made(2, 0, 0, 1, 0));
    read(x, "line 5 when last=1 and step#2;line 5 when last=2 and step#0-3;line 5 when last=0-3 and step#4;");
    due("by last", 0, x.made(2, 0, 0, 3, NONE));
    due("2 up", 33, x.made(2, 0, 0, 3, 0));
    due("3 down", 30, x.made(2, 0, 0, 3, 1));
    due("4 up", 34, x.made(2, 0, 0, 3, 2));
    read(x, "pair 9 when mine#2 and yours#2;pair 9 when hold=1;pair 1 when cross=1 and was<0;");
    due("as v", 1, x.made(3, 0, 0, 1, NONE));
    due("mine 2", 33, x.made(3, 0, 0, 1, 0));
    x.bar(2);
    due("by the bar", 21 + 20, x.made(1, 0, 0, 2, NONE));
    x.bar(4);
    // Voice 3 came first and rests long; nothing sounds where it goes on but 1 and 2.
    x.note(0, 3, 0, 2, 3);
    due("as w, from its own end", 0, x.made(3, 0, 3, 1, NONE));
    due("up two as w", 4, x.made(3, 0, 3, 1, 0));
    x.note(2, 0, 0, 30, 4);
    x.note(2, 3, 0, 30, 1);
    due("against the first voice too", 3 + 1 + 6 + 1, x.made(1, 2, 3, 2, NONE));
    due("up twice", 36, x.made(1, 2, 3, 2, 1));
    x.note(1, 0, 0, 3, 1);
    read(x, "line 1 when pitch>0;");
    due("0 at least", 0, x.made(4, 1, 0, 5, 4));
    x.note(1, 1, 0, 58, 1);
    read(x, "line 60-pitch when 1=1;");
    due("60 at most", 60, x.made(5, 1, 1, 1, 0));
    due("cheap there", 0, x.made(5, 1, 1, 5, NONE));
    due("and last", 60, x.made(5, 1, 1, 5, 4));
    x.note(1, 1, 0, 20, 1);
    due("at most 7 above", 27, x.made(5, 1, 1, 5, 4));
    x.note(1, 2, 26, 5, 1);
    due("up to beat 31", 5 * 48, x.made(5, 1, 2, 5, NONE));
    x.note(1, 2, 27, 5, 1);
    due("beyond it", NONE, x.made(5, 1, 2, 5, NONE));
    due("one less", 4 * 48, x.made(5, 1, 2, 4, NONE));
    x.note(1, 2, 31, 5, 1);
    due("at the end", NONE, x.made(5, 1, 2, 1, NONE));
    due("never sounded", NONE, x.made(5, 1, 3, 1, NONE));
    due("i", NONE, x.made(5, 1, 0, 2, 2));
    for (int bad : new int[] {LOWEST, -2, 5, HIGHEST}) {
      due("i " + bad, NONE, x.made(5, 1, 0, 5, bad));
    }
    for (int bad : new int[] {LOWEST, -1, 0, 6, HIGHEST}) {
      due("n", NONE, x.made(5, 1, 0, bad, NONE));
    }
    for (int bad : new int[] {LOWEST, -1, 6, HIGHEST}) {
      due("text", NONE, x.made(bad, 1, 0, 1, NONE));
      due("piece", NONE, x.made(5, bad, 0, 1, NONE));
      due("voice", NONE, x.made(5, 1, bad, 1, NONE));
    }
  }

  private static void promise27Head() {
    BrokenFugue x = new BrokenFugue();
    sing(x, 0, 0, 0, 40, 42);
    x.note(0, 1, 0, 30, 2);
    // About 60: voice 3 sounds 20, 18 and voice 2 sounds 30, held.
    read(x, "line 5 when step=2;line 7 when step=0-2;pair 1 when cross=0;pair 10 when mine#0;pair 100 when yours#0;");
    due("as it is", 5 + 2 + 10, x.price(0, 0));
    due("can", 1, x.head(0, 0, 60, 0));
    due("its price", 7 + 2 + 100, x.head(0, 0, 60, 1));
    due("lowest that can", 1, x.head(0, 0, 42, 0));
    due("too low", 0, x.head(0, 0, 41, 0));
    due("no price", NONE, x.head(0, 0, 41, 1));
    due("highest that can", 1, x.head(0, 0, 90, 0));
    due("too high", 0, x.head(0, 0, 91, 0));
    due("c 0", 0, x.head(0, 0, 0, 0));
    due("c 120", NONE, x.head(0, 0, 120, 1));
    due("an empty piece can", 1, x.head(0, 1, 0, 0));
    due("its price is 0", 0, x.head(0, 1, 120, 1));
    x.note(2, 3, 0, 60, 8);
    due("60 about 120", 1, x.head(0, 2, 120, 0));
    due("60 about 60", 1, x.head(0, 2, 60, 0));
    due("60 about 59", 0, x.head(0, 2, 59, 0));
    due("nothing is turned", 40, x.at(0, 0, 0));
    read(x, "pair 1 when hold=1;");
    x.note(0, 0, 0, 40, 2);
    due("held beats stay held", 1, x.head(1, 0, 60, 1));
    for (int bad : new int[] {LOWEST, -1, 121, HIGHEST}) {
      due("c", NONE, x.head(0, 0, bad, 0));
    }
    for (int bad : new int[] {LOWEST, -1, 2, HIGHEST}) {
      due("what", NONE, x.head(0, 0, 60, bad));
      due("text", NONE, x.head(bad, 0, 60, 0));
    }
    for (int bad : new int[] {LOWEST, -1, 4, HIGHEST}) {
      due("piece", NONE, x.head(0, bad, 60, 0));
    }
  }

  private static void promise28Shape() {
    BrokenFugue x = new BrokenFugue();
    due("first", 1, x.shape(1, 9999));
    due("part as whole", 2, x.shape(9999, 9999));
    due("least", 3, x.shape(1, 1));
    due("part above whole", NONE, x.shape(2, 1));
    for (int bad : new int[] {LOWEST, -1, 0, 10000, HIGHEST}) {
      due("part", NONE, x.shape(bad, 9999));
      due("whole", NONE, x.shape(1, bad));
    }
    due("both too great", NONE, x.shape(10000, 10000));
    for (int i = 4; i <= 10; i++) {
      due("shape " + i, i, x.shape(i, 20));
    }
    due("an eleventh", NONE, x.shape(1, 2));
    due("told", 10, x.about(3));
  }

  private static void promise29Lasts() {
    BrokenFugue x = new BrokenFugue();
    x.note(0, 2, 0, 9, 7);
    due("without shapes", NONE, x.lasts(0, false));
    due("without shapes, most", NONE, x.lasts(0, true));
    x.shape(3, 10);
    due("least", 23, x.lasts(0, false));
    due("greatest", 23, x.lasts(0, true));
    x.shape(2, 3);
    x.shape(1, 9999);
    x.shape(1, 5);
    due("least of all", 10, x.lasts(0, false));
    due("greatest of all", 69993, x.lasts(0, true));
    due("an empty piece", 0, x.lasts(1, true));
    x.note(3, 0, 24, 9, 8);
    due("the longest", 32 * 9999, x.lasts(3, true));
    due("the longest, least", 48, x.lasts(3, false));
    for (int bad : new int[] {LOWEST, -1, 4, HIGHEST}) {
      due("piece", NONE, x.lasts(bad, true));
    }
  }

  private static void promise30Page() {
    BrokenFugue x = new BrokenFugue();
    due("first", 0, x.page(0, 0, 0, 0));
    due("second", 1, x.page(99, 9, 9, 9));
    for (int bad : new int[] {LOWEST, -1, 100, HIGHEST}) {
      due("number", NONE, x.page(bad, 0, 0, 0));
    }
    for (int bad : new int[] {LOWEST, -1, 10, HIGHEST}) {
      due("ruling", NONE, x.page(0, bad, 0, 0));
      due("ink", NONE, x.page(0, 0, bad, 0));
      due("size", NONE, x.page(0, 0, 0, bad));
    }
    for (int i = 2; i < 8; i++) {
      due("page " + i, i, x.page(i, 0, 0, 0));
    }
    due("a ninth", NONE, x.page(1, 1, 1, 1));
    due("told", 8, x.about(2));
  }

  private static void promise31Orders() {
    BrokenFugue x = new BrokenFugue();
    due("no text", NONE, x.orders(0));
    read(x, "");
    read(x, "ahead number<numberb and ruling=rulingb;");
    read(x, "beside ink=inkb;");
    read(x, "ahead size=1 and sizeb=1;");
    read(x, "ahead number<numberb;ahead ruling<rulingb;beside ink=inkb and size=sizeb;pair 1 when 1=1;");
    read(x, "beside number+1=numberb;beside number=1 and numberb=4;");
    due("without pages", 1, x.orders(3));
    x.page(1, 0, 5, 0);
    due("one page", 1, x.orders(3));
    x.page(2, 0, 5, 0);
    due("two freely", 2, x.orders(0));
    due("two in order", 1, x.orders(1));
    due("two beside", 2, x.orders(2));
    x.page(3, 1, 6, 1);
    x.page(4, 1, 6, 1);
    due("four freely", 24, x.orders(0));
    due("two chains", 6, x.orders(1));
    due("two couples", 8, x.orders(2));
    due("either ahead of the other", 0, x.orders(3));
    due("all of it", 1, x.orders(4));
    due("a ring", 0, x.orders(5));
    x.page(90, 7, 0, 9);
    x.page(91, 7, 1, 8);
    x.page(92, 7, 2, 7);
    x.page(93, 7, 3, 6);
    due("eight freely", 40320, x.orders(0));
    due("three chains", 40320 / 2 / 2 / 24, x.orders(1));
    due("two couples among four", 720 * 4, x.orders(2));
    for (int bad : new int[] {LOWEST, -1, 6, HIGHEST}) {
      due("text", NONE, x.orders(bad));
    }
    BrokenFugue z = new BrokenFugue();
    for (int i = 0; i < 8; i++) {
      z.page(i, i, i, i);
    }
    read(z, "ahead size=0 and sizeb=7 or size=7 and sizeb=1;");
    due("the last page ahead and behind", 40320 / 6, z.orders(0));
    // One way round is enough, whichever page was told first.
    BrokenFugue y = new BrokenFugue();
    y.page(2, 0, 0, 0);
    y.page(1, 0, 0, 0);
    y.page(0, 0, 0, 0);
    read(y, "beside number=2 and numberb=1;");
    read(y, "beside number=1 and numberb=2;");
    read(y, "ahead number=2 and numberb=0;ahead number=0 and numberb=1;");
    due("beside one way", 4, y.orders(0));
    due("beside the other way", 4, y.orders(1));
    due("ahead", 1, y.orders(2));
    due("first of these", 1, y.where(2, 0, 0));
    due("last of these", 1, y.where(2, 1, 2));
  }

  private static void promise32Where() {
    BrokenFugue x = new BrokenFugue();
    read(x, "");
    read(x, "ahead number<numberb;");
    read(x, "beside ink=inkb;ahead size<sizeb;");
    due("without pages", NONE, x.where(0, 0, 0));
    x.page(9, 0, 1, 5);
    x.page(4, 0, 1, 5);
    x.page(6, 0, 2, 5);
    for (int page = 0; page < 3; page++) {
      for (int place = 0; place < 3; place++) {
        due("freely", 2, x.where(0, page, place));
      }
    }
    due("last", 1, x.where(1, 0, 2));
    due("not first", 0, x.where(1, 0, 0));
    due("first", 1, x.where(1, 1, 0));
    due("between", 1, x.where(1, 2, 1));
    due("beside the other, never alone in the midst", 0, x.where(2, 2, 1));
    due("at an end", 2, x.where(2, 2, 0));
    due("the couple in the midst", 2, x.where(2, 0, 1));
    x.page(1, 0, 2, 6);
    due("behind all", 2, x.where(2, 3, 3));
    due("its mate ahead of it", 2, x.where(2, 2, 2));
    for (int bad : new int[] {LOWEST, -1, 4, HIGHEST}) {
      due("page", NONE, x.where(0, bad, 0));
      due("place", NONE, x.where(0, 0, bad));
      due("text", NONE, x.where(bad, 0, 0));
    }
  }

  private static void promise33Weight() {
    BrokenFugue x = new BrokenFugue();
    due("no text", false, x.weight(0, 1));
    read(x, "");
    due("1 at first", 1, x.about(40));
    due("0", true, x.weight(0, 0));
    due("told 0", 0, x.about(40));
    due("9", true, x.weight(0, 9));
    due("told 9", 9, x.about(40));
    for (int bad : new int[] {LOWEST, -1, 10, HIGHEST}) {
      due("weight", false, x.weight(0, bad));
    }
    for (int bad : new int[] {LOWEST, -1, 1, HIGHEST}) {
      due("text", false, x.weight(bad, 1));
    }
    due("unchanged", 9, x.about(40));
    x.back();
    due("a text that is no more", false, x.weight(0, 1));
    read(x, "");
    due("1 again", 1, x.about(40));
  }

  private static void promise34Story() {
    BrokenFugue x = new BrokenFugue();
    due("no texts", NONE, x.story(1, 0));
    due("no set", NONE, x.story(0, 0));
    read(x, "");
    read(x, "ahead number<numberb;");
    read(x, "ahead 1=1;");
    due("alone", 1000, x.story(1, 0));
    due("a third", 333, x.story(7, 2));
    x.page(0, 0, 0, 0);
    x.page(1, 0, 0, 0);
    // Orders 2, 1, 0.
    due("two of three", 666, x.story(7, 0));
    due("one of three", 333, x.story(7, 1));
    due("none of three", 0, x.story(7, 2));
    due("among two", 1000, x.story(5, 0));
    due("all are 0", NONE, x.story(4, 2));
    x.weight(1, 9);
    due("2 of 11", 181, x.story(3, 0));
    due("9 of 11", 818, x.story(3, 1));
    x.weight(0, 0);
    due("0 of 9", 0, x.story(3, 0));
    x.weight(1, 0);
    due("no weights", NONE, x.story(3, 1));
    x.weight(0, 9);
    for (int i = 2; i < 8; i++) {
      x.page(i, 0, 0, 0);
    }
    due("great numbers", 1000, x.story(7, 0));
    due("not of the set", NONE, x.story(1, 1));
    due("a set of more", NONE, x.story(8 + 1, 0));
    for (int bad : new int[] {LOWEST, -1, 64, HIGHEST}) {
      due("set", NONE, x.story(bad, 0));
      due("text", NONE, x.story(7, bad));
    }
    due("text 3", NONE, x.story(7, 3));
    due("text 32", NONE, x.story(7, 32));
    read(x, "");
    read(x, "");
    read(x, "");
    due("six", 1000 / 12, x.story(63, 5));
    due("six of set 64", NONE, x.story(64, 0));
  }

  private static void promise35Image() {
    BrokenFugue x = new BrokenFugue();
    due("no texts", 0, x.image());
    read(x, "pair 1 when 1=1;");
    x.weight(0, 7);
    x.note(2, 1, 3, 9, 2);
    x.subject(4, 1, 3, 2);
    x.bar(9);
    x.hand(1, 3);
    x.shape(2, 5);
    x.page(5, 4, 3, 2);
    x.feed(0, 0, 0, 0, 0);
    due("one", 1, x.image());
    due("the tape stays", 20, x.about(4));
    due("all stays", 5, x.about(12));
    x.weight(0, 2);
    x.note(2, 1, 3, NONE, 2);
    x.subject(4, 1, -100, 2);
    x.bar(3);
    x.hand(1, 0);
    due("back", 1, x.back());
    due("weight", 7, x.about(40));
    due("piece", 9, x.at(2, 1, 3));
    due("held", 109, x.at(2, 1, 4));
    due("subject", 3, x.about(34));
    due("bar", 9, x.about(0));
    due("hand", 3, x.about(21));
    // A later image is in the place of this one.
    x.note(2, 1, 3, 20, 1);
    read(x, "");
    due("two", 2, x.image());
    x.note(2, 1, 3, 30, 1);
    x.back();
    due("the later", 20, x.at(2, 1, 3));
    due("its texts", 2, x.about(1));
  }

  private static void promise36Back() {
    BrokenFugue x = new BrokenFugue();
    read(x, "pair 1 when 1=1;");
    sing(x, 0, 0, 0, 10, 12);
    sing(x, 0, 1, 0, 20, 21);
    x.shape(1, 2);
    x.page(1, 1, 1, 1);
    x.image();
    read(x, "pair 2 when 1=1;");
    x.shape(1, 9);
    x.page(1, 1, 1, 1);
    x.copy(1, 0);
    lay(x, "pair;");
    due("back", 1, x.back());
    due("the tape is as it was", 5, x.about(4));
    due("shapes", 1, x.about(3));
    due("they last so", 4, x.lasts(0, true));
    due("pages", 1, x.about(2));
    due("orders", 1, x.orders(0));
    due("no second text", NONE, x.price(1, 0));
    due("the first", 2, x.price(0, 0));
    due("the fault was none", 0, x.fault(0));
    x.text();
    x.back();
    due("the fault stays", 1, x.fault(0));
    due("its place too", 4, x.fault(1));
    // A faulty text leaves those of the image as they are.
    due("again", 1, x.back());
    due("another second", 1, read(x, "pair 5 when 1=1;"));
    due("its price", 10, x.price(1, 0));
    x.note(0, 0, 0, 10, 1);
    due("and again, the image stays", 1, x.back());
    due("the price of the first", 2, x.price(0, 0));
    x.shape(3, 3);
    x.page(7, 1, 1, 1);
    due("a second shape", 2, x.about(3));
    due("lasts", 2, x.lasts(0, false));
  }

  private static void promise37About() {
    BrokenFugue x = new BrokenFugue();
    read(x, "");
    read(x, "");
    x.weight(1, 5);
    x.bar(11);
    x.page(1, 1, 1, 1);
    x.page(1, 1, 1, 1);
    x.page(1, 1, 1, 1);
    x.shape(1, 1);
    x.feed(0, 0, 0, 0, 0);
    x.end(13);
    for (int p = 0; p < 4; p++) {
      x.note(p, p, p + 3, 0, 1);
      x.hand(p, 3 - p);
    }
    for (int s = 0; s < 6; s++) {
      x.subject(s, s + 2, 0, 1);
    }
    due("bar", 11, x.about(0));
    due("texts", 2, x.about(1));
    due("pages", 3, x.about(2));
    due("shapes", 1, x.about(3));
    due("tape", 13, x.about(4));
    for (int p = 0; p < 4; p++) {
      due("length", p + 4, x.about(10 + p));
      due("hand", 3 - p, x.about(20 + p));
    }
    for (int s = 0; s < 6; s++) {
      due("subject", s + 3, x.about(30 + s));
    }
    due("weight", 1, x.about(40));
    due("weight of 1", 5, x.about(41));
    for (int bad : new int[] {LOWEST, -1, 5, 9, 14, 19, 24, 29, 36, 39, 42, 45, 46, 100, HIGHEST}) {
      due("what " + bad, -2, x.about(bad));
    }
  }

  private static void pieces() {
    promise = 1;
    promise1NewObject();
    promise = 2;
    promise2Note();
    promise = 3;
    promise3At();
    promise = 4;
    promise4Subject();
    promise = 5;
    promise5Bar();
    promise = 6;
    promise6Copy();
  }

  private static void texts() {
    promise = 7;
    promise7Feed();
    promise = 8;
    promise8End();
    promise = 9;
    promise9Text();
    promise = 10;
    promise10Fault();
    promise = 11;
    promise11Price();
    promise11Logic();
    promise = 12;
    promise12Breaks();
  }

  private static void subjects() {
    promise = 13;
    promise13Fit();
    promise = 14;
    promise14Fits();
    promise = 15;
    promise15Cheapest();
    promise = 16;
    promise16Three();
    promise = 17;
    promise17Chance();
  }

  private static void endings() {
    promise = 18;
    promise18Seen();
    promise = 19;
    promise19Strange();
    promise = 20;
    promise20Follows();
    promise = 21;
    promise21Never();
    promise = 22;
    promise22Hand();
    promise = 23;
    promise23Apart();
    promise = 24;
    promise24Whose();
    promise = 25;
    promise25Endings();
    promise = 26;
    promise26Made();
    promise = 27;
    promise27Head();
    promise = 28;
    promise28Shape();
    promise = 29;
    promise29Lasts();
  }

  private static void pages() {
    promise = 30;
    promise30Page();
    promise = 31;
    promise31Orders();
    promise = 32;
    promise32Where();
    promise = 33;
    promise33Weight();
    promise = 34;
    promise34Story();
    promise = 35;
    promise35Image();
    promise = 36;
    promise36Back();
    promise = 37;
    promise37About();
  }

  public static void main(String[] args) {
    pieces();
    texts();
    subjects();
    endings();
    pages();
    System.out.println("PromisesTest: " + asked + " answers, " + wrong + " of them not as due");
    if (wrong != 0) {
      System.exit(1);
    }
  }
}
