/** Promises 11 and 12: what clauses ask, what sums come to, prices and breaks. */
final class BoundariesOfPrices extends Boundaries {
  private BoundariesOfPrices() {}

  /** Two voices that sound at one beat, with gap 7. */
  private static BrokenFugue twoAtOnce() {
    BrokenFugue x = new BrokenFugue();
    sing(x, 0, 0, 0, 30);
    sing(x, 0, 1, 0, 23);
    return x;
  }

  /** Whether what is asked is so, of the two that sound at one beat. */
  private static void so(boolean want, String asked) {
    BrokenFugue x = twoAtOnce();
    due(0, read(x, "pair 1 when " + asked + ";"));
    due(want, x.price(0, 0) == 1);
  }

  private static void isSo(String asked) {
    so(true, asked);
  }

  private static void isNotSo(String asked) {
    so(false, asked);
  }

  /** The price of a piece by a text that is gone again then. */
  private static int priceBy(BrokenFugue x, String text, int piece) {
    x.image();
    int price = x.price(read(x, text), piece);
    x.back();
    return price;
  }

  /** Of a break by a text that is gone again then. */
  private static int breakBy(BrokenFugue x, String text, int piece, int i, int what) {
    x.image();
    int answer = x.breaks(read(x, text), piece, i, what);
    x.back();
    return answer;
  }

  @Holds(promise = 11, words = "EITHER: BOTH {or BOTH}.")
  static void orOfOneAndMore(BrokenFugue x) {
    isSo("1=1");
    isNotSo("1=2");
    isSo("1=2 or 1=1");
    isSo("1=1 or 1=2");
    isSo("1=1 or 1=1");
    isNotSo("1=2 or 1=2");
    isSo("1=2 or 1=2 or 1=2 or 1=2 or 1=2 or 1=2 or 1=2 or 1=2 or 1=2 or 1=1");
    isNotSo("1=2 or 1=2 or 1=2 or 1=2 or 1=2 or 1=2 or 1=2 or 1=2 or 1=2 or 1=2");
    isSo("1=1 or 1=2 or 1=2 or 1=2 or 1=2 or 1=2 or 1=2 or 1=2 or 1=2 or 1=2");
  }

  @Holds(promise = 11, words = "BOTH: ASK {and ASK}.")
  static void andBindsTighterThanOr(BrokenFugue x) {
    isSo("1=1 and 1=1");
    isNotSo("1=1 and 1=2");
    isNotSo("1=2 and 1=1");
    isSo("1=1 or 1=1 and 1=2");
    isSo("1=2 and 1=1 or 1=1");
    isNotSo("1=2 or 1=1 and 1=2");
    isSo("1=1 and 1=1 and 1=1 and 1=1 and 1=1 and 1=1 and 1=1 and 1=1 and 1=1 and 1=1");
    isNotSo("1=1 and 1=1 and 1=1 and 1=1 and 1=1 and 1=1 and 1=1 and 1=1 and 1=1 and 1=2");
    isNotSo("1=2 and 1=1 and 1=1 and 1=1 and 1=1 and 1=1 and 1=1 and 1=1 and 1=1 and 1=1");
  }

  @Holds(promise = 11, words = "ASK: not ASK, or SUM one of < <= > >= = # (unlike) SUM.")
  static void comparisonsWhereTheyTurn(BrokenFugue x) {
    String[] signs = {"<", "<=", ">", ">=", "=", "#"};
    // gap is 7; by sign whether it is so of 6, 7 and 8.
    boolean[][] due = {{false, false, true}, {false, true, true}, {true, false, false}, {true, true, false},
        {false, true, false}, {true, false, true}};
    for (int i = 0; i < signs.length; i++) {
      for (int other = 6; other <= 8; other++) {
        so(due[i][other - 6], "gap" + signs[i] + other);
        so(!due[i][other - 6], "not gap" + signs[i] + other);
        so(due[i][other - 6], "not not gap" + signs[i] + other);
        so(due[i][other - 6], "0-" + other + signs[i] + "-gap");
        so(due[i][other - 6], "2*gap-gap" + signs[i] + other + "*2-" + other);
      }
    }
    // not is of one ASK alone.
    isNotSo("not 1=1 and 1=2");
    isSo("not 1=1 or 1=1");
    isNotSo("not not not not not not not 1=1");
    isSo("not not not not not not not not 1=1");
  }

  @Holds(promise = 11, words = "SUM: PRODUCT {+ or - PRODUCT}.")
  static void sumsOfProducts(BrokenFugue x) {
    isSo("0=0");
    isSo("1+2*3=7");
    isSo("2*3+1=7");
    isSo("20-2*3-8/4/2=13");
    isSo("gap=1+1+1+1+1+1+1");
    isSo("5-5=0");
    isSo("3-4<0");
    isSo("1-2*3=-5");
  }

  @Holds(promise = 11, words = "PRODUCT: ONE {* or / ONE}.")
  static void productsOfOnes(BrokenFugue x) {
    isSo("2*3*4=24");
    isSo("24/3/4=2");
    isSo("24/3*4=32");
    isSo("2*-3=-6");
    isSo("-2*-3=6");
    isSo("0*999=0");
    isSo("gap*gap/gap=gap");
  }

  @Holds(promise = 11, words = "ONE: NUMBER, NAME, ( SUM ), - ONE.")
  static void onesOfEachKind(BrokenFugue x) {
    isSo("(1+2)*3=9");
    isSo("-(2+3)=-5");
    isSo("--4=4");
    isSo("---4=-4");
    isSo("-gap=0-7");
    isSo("((((((((gap))))))))=7");
    isSo("-0=0");
    // - binds its ONE alone, tighter than *.
    isSo("-7/2=-3");
    isSo("-1+2=1");
    isSo("1--1=2");
  }

  @Holds(promise = 11, words = "From the left;")
  static void fromTheLeft(BrokenFugue x) {
    isSo("7-2-1=4");
    isSo("2-3+4=3");
    isSo("12/5*5=10");
    isSo("5*12/5=12");
    isSo("100/10/10=1");
    isSo("100/(10/10)=100");
    isSo("1-1-1-1-1-1-1-1-1-1=-8");
  }

  @Holds(promise = 11, words = "/ cuts towards 0, by 0 it is 0;")
  static void quotientsAreCutTowards0(BrokenFugue x) {
    isSo("7/2=3 and -7/2=-3 and 7/-2=-3 and -7/-2=3");
    isSo("1/2=0 and -1/2=0 and 1/-2=0 and 0/5=0");
    isSo("998/999=0 and 999/998=1 and -999/998=-1 and -998/999=0");
  }

  @Holds(promise = 11, words = "/ cuts towards 0, by 0 it is 0;")
  static void by0ItIs0(BrokenFugue x) {
    isSo("5/0=0 and -5/0=0 and 0/0=0 and 5/(gap-7)=0 and 5/-0=0");
    isSo("1+5/0*3=1");
    isSo("100*100*100/0=0");
    due(0, priceBy(twoAtOnce(), "pair 5/0 when 1=1;", 0));
    due(4, priceBy(twoAtOnce(), "pair 4+gap/(low-23) when 1=1;", 0));
  }

  @Holds(promise = 11, words = "what is above 1000000 (below the same less) is that, at each step.")
  static void exactly1000000IsNotAbove(BrokenFugue x) {
    isSo("999*999+999+999+1-1=999*999+999+999");
    isSo("999*999+999+999+1=100*100*100");
    isSo("999*999+999+999+1#999*999+999+999");
    isSo("-999*999-999-999-1+1=-999*999-999-999");
    isSo("-999*999-999-999-1=-100*100*100");
    isSo("100*100*100/100/100=100");
  }

  @Holds(promise = 11, words = "what is above 1000000 (below the same less) is that, at each step.")
  static void above1000000ItIsThat(BrokenFugue x) {
    isSo("999*999+999+999+2=100*100*100");
    isSo("100*100*100+1-1=999*999+999+999");
    isSo("-999*999-999-999-2=-100*100*100");
    isSo("-100*100*100-1+1=-999*999-999-999");
    isSo("999*999*999=100*100*100");
    isSo("999*999*-999=-100*100*100");
    isSo("999*999*999/100/100=100");
    isSo("-999*999*999*-1=100*100*100");
    // At each step: what was cut off does not come back.
    isSo("100*100*100+999-999=999*999+999+1");
    isSo("100*100*100*999/999=999+2");
    isSo("100*100*100+(999-999)=100*100*100");
    // Products of the greatest are beyond 32 bits.
    isSo("(100*100*100)*(100*100*100)=100*100*100");
    isSo("(100*100*100)*-(100*100*100)=-(100*100*100)");
    isSo("(100*100*100)+(100*100*100)=100*100*100");
    isSo("-(100*100*100)-(100*100*100)=-(100*100*100)");
  }

  @Holds(promise = 11, words = "or and and look at both sides always.")
  static void bothSidesAreLookedAt(BrokenFugue x) {
    isSo("1=1 or 1/0=1");
    isNotSo("1=2 and 1/0=0");
    isSo("1/0=1 or 1=1");
    // What stands behind a side that settles it must be in order too.
    faultAtBar(1, "pair 1 when 1=1 or 1|;");
    faultAtBar(4, "pair 1 when 1=2 and |step=1;");
    faultAtBar(2, "pair 1 when 1=1 or |1000=1;");
  }

  @Holds(promise = 11, words = "A pair clause is asked at each BEAT t of each two VOICES v < w that both sound (of"
      + " PITCHES p, q):")
  static void pairsWhereBothSound(BrokenFugue x) {
    String each = "pair 1 when 1=1;";
    due(0, priceBy(x, each, 0));
    x.note(0, 0, 0, 30, 1);
    x.note(0, 1, 1, 30, 1);
    due(0, priceBy(x, each, 0));
    x.note(0, 1, 0, 30, 1);
    due(1, priceBy(x, each, 0));
    for (int voice = 0; voice < 4; voice++) {
      x.note(1, voice, 31, 30, 1);
      x.note(1, voice, 0, 30, 1);
    }
    due(12, priceBy(x, each, 1));
    // What is held sounds too, and each voice is asked once with each.
    x.note(2, 3, 0, 10, 8);
    x.note(2, 2, 7, 11, 2);
    due(1, priceBy(x, each, 2));
    due(1, breakBy(x, each, 2, NONE, 0));
    due(7, breakBy(x, each, 2, 0, 0));
    due(2, breakBy(x, each, 2, 0, 1));
    due(3, breakBy(x, each, 2, 0, 2));
    due(10, priceBy(x, "pair low when cross=0;", 2));
  }

  @Holds(promise = 11, words = "gap |p - q|;")
  static void gapsFrom0To60(BrokenFugue x) {
    sing(x, 0, 0, 0, 60, 0, 7, 7, 8);
    sing(x, 0, 2, 0, 0, 60, 7, 8, 7);
    due(60 + 60 + 0 + 1 + 1, priceBy(x, "pair gap when 1=1;", 0));
    due(2, priceBy(x, "pair 1 when gap=60;", 0));
    due(1, priceBy(x, "pair 1 when gap=0;", 0));
    due(0, priceBy(x, "pair 1 when gap<0;", 0));
  }

  @Holds(promise = 11, words = "was: that at t - 1, if both sounded then, else -1;")
  static void wasIsMinusOneWithout(BrokenFugue x) {
    // Both at 0; both at 1; one at 2; both at 3; at 31 both.
    sing(x, 0, 0, 0, 20, 25, 26, 27);
    sing(x, 0, 1, 0, 20, 21, NONE, 22);
    x.note(0, 0, 31, 30, 1);
    x.note(0, 1, 30, 30, 2);
    due(3, priceBy(x, "pair 1 when was=-1;", 0));
    due(1, priceBy(x, "pair 1 when was=0;", 0));
    due(0, priceBy(x, "pair 1 when was>0;", 0));
    // At BEAT 0 there is no BEAT ahead, and nothing of another voice's last BEAT counts.
    x.note(1, 1, 31, 5, 1);
    x.note(1, 2, 31, 5, 1);
    x.note(1, 2, 0, 6, 1);
    x.note(1, 3, 0, 7, 1);
    due(1 + 1, priceBy(x, "pair 1 when was=-1;", 1));
    due(1, priceBy(x, "pair 1 when was=-1 and place=0;", 1));
    // What is held sounded.
    x.note(2, 0, 0, 50, 3);
    x.note(2, 1, 0, 40, 3);
    due(2, priceBy(x, "pair 1 when was=10;", 2));
  }

  @Holds(promise = 11, words = "mine: if v begins at t and sounded at t - 1, p less that PITCH, else 0;")
  static void mineIs0Without(BrokenFugue x) {
    x.note(0, 1, 0, 30, 8);
    sing(x, 0, 0, 0, 20, 27, 27);
    x.note(0, 0, 3, 21, 2);
    x.note(0, 0, 6, 60, 1);
    x.note(0, 0, 7, 0, 1);
    // At 0 nothing ahead; +7; 0 anew; -6; held; rest; anew behind a rest; -60.
    due(1, priceBy(x, "pair 1 when mine=7;", 0));
    due(1, priceBy(x, "pair 1 when mine=-6;", 0));
    due(1, priceBy(x, "pair 1 when mine=-60;", 0));
    due(4, priceBy(x, "pair 1 when mine=0;", 0));
    due(7, priceBy(x, "pair 1 when yours=0;", 0));
    // Of a pair v is the lower number.
    due(0, priceBy(x, "pair 1 when mine=7 and cross=0;", 0));
  }

  @Holds(promise = 11, words = "yours: likewise of w;")
  static void yoursIs0Without(BrokenFugue x) {
    x.note(0, 1, 0, 30, 8);
    sing(x, 0, 3, 0, 20, 27, 27);
    x.note(0, 3, 3, 21, 2);
    x.note(0, 3, 6, 60, 1);
    x.note(0, 3, 7, 0, 1);
    due(1, priceBy(x, "pair 1 when yours=7;", 0));
    due(1, priceBy(x, "pair 1 when yours=-6;", 0));
    due(1, priceBy(x, "pair 1 when yours=-60;", 0));
    due(4, priceBy(x, "pair 1 when yours=0;", 0));
    due(7, priceBy(x, "pair 1 when mine=0;", 0));
  }

  @Holds(promise = 11, words = "low, high: the lesser, the greater of p, q;")
  static void lowAndHighOfAllPitches(BrokenFugue x) {
    sing(x, 0, 0, 0, 0, 60, 33, 12);
    sing(x, 0, 1, 0, 60, 0, 33, 13);
    due(2, priceBy(x, "pair 1 when low=0 and high=60;", 0));
    due(1, priceBy(x, "pair 1 when low=33 and high=33;", 0));
    due(1, priceBy(x, "pair 1 when low=12 and high=13;", 0));
    due(0 + 0 + 33 + 12, priceBy(x, "pair low when 1=1;", 0));
    due(60 + 60 + 33 + 13, priceBy(x, "pair high when 1=1;", 0));
  }

  @Holds(promise = 11, words = "cross: 1 if p < q, else 0;")
  static void alikeTheyDoNotCross(BrokenFugue x) {
    sing(x, 0, 1, 0, 20, 20, 20);
    sing(x, 0, 2, 0, 19, 20, 21);
    due(1, priceBy(x, "pair 1 when cross=1;", 0));
    due(21, priceBy(x, "pair high when cross=1;", 0));
    due(2, priceBy(x, "pair 1 when cross=0;", 0));
  }

  @Holds(promise = 11, words = "hold: 1 if neither begins at t, else 0;")
  static void holdIfNeitherBegins(BrokenFugue x) {
    // One begins at 0, 2; the other at 0, 3: held both at 1, 4.
    x.note(0, 0, 0, 20, 2);
    x.note(0, 0, 2, 21, 3);
    x.note(0, 3, 0, 10, 3);
    x.note(0, 3, 3, 11, 2);
    due(2, priceBy(x, "pair 1 when hold=1;", 0));
    due(3, priceBy(x, "pair 1 when hold=0;", 0));
    due(2, priceBy(x, "pair 1 when hold=1 and mine=0 and yours=0;", 0));
    // Held to BEAT 31.
    x.note(1, 0, 30, 20, 2);
    x.note(1, 1, 30, 20, 2);
    due(1, priceBy(x, "pair 1 when hold=1;", 1));
  }

  @Holds(promise = 11, words = "place: t mod BAR.")
  static void placesComeRoundWithTheBar(BrokenFugue x) {
    for (int voice = 0; voice < 2; voice++) {
      for (int beat = 0; beat < 32; beat += 8) {
        x.note(0, voice, beat, 5, 8);
      }
    }
    read(x, "pair 1 when place=0;");
    read(x, "pair place when 1=1;");
    for (int bar = 1; bar <= 12; bar++) {
      x.bar(bar);
      due((31 + bar) / bar, x.price(0, 0));
      int sum = 0;
      for (int beat = 0; beat < 32; beat++) {
        sum += beat % bar;
      }
      due(sum, x.price(1, 0));
    }
    due(7, x.breaks(1, 0, 31, 4));
    due(11, x.breaks(1, 0, 23, 4));
    due(0, x.breaks(1, 0, 24, 4));
  }

  @Holds(promise = 11, words = "A line clause at each BEAT t where a VOICE begins that sounded ahead of t:")
  static void linesBehindAFirstNote(BrokenFugue x) {
    String each = "line 1 when 1=1;";
    x.note(0, 0, 0, 20, 8);
    x.note(0, 1, 31, 20, 1);
    due(0, priceBy(x, each, 0));
    x.note(0, 0, 31, 20, 1);
    due(1, priceBy(x, each, 0));
    due(31, breakBy(x, each, 0, 0, 0));
    x.note(0, 0, 8, 20, 2);
    x.note(0, 3, 1, 20, 1);
    x.note(0, 3, 0, 20, 1);
    // Each voice for itself: what another sounded ahead of it does not matter.
    due(3, priceBy(x, each, 0));
    due(0, priceBy(x, each, 1));
  }

  @Holds(promise = 11, words = "step: its PITCH less that of the NOTE ahead;")
  static void stepsFromMinus60To60(BrokenFugue x) {
    sing(x, 0, 0, 0, 0, 60, 0, 0, 13);
    x.note(0, 1, 0, 30, 4);
    x.note(0, 1, 6, 43, 2);
    due(1, priceBy(x, "line 1 when step=60;", 0));
    due(1, priceBy(x, "line 1 when step=-60;", 0));
    due(1, priceBy(x, "line 1 when step=0;", 0));
    // Over rests and behind what was held.
    due(2, priceBy(x, "line 1 when step=13;", 0));
    due(0, priceBy(x, "line 1 when step=12;", 0));
  }

  @Holds(promise = 11, words = "last: the step of that NOTE (0 without);")
  static void lastIs0Without(BrokenFugue x) {
    sing(x, 0, 2, 5, 20, 25, NONE, 22, 22, 60);
    // Steps 5, -3, 0, 38; behind them lasts 0, 5, -3, 0.
    due(1, priceBy(x, "line 1 when last=0 and step=5;", 0));
    due(1, priceBy(x, "line 1 when last=5 and step=-3;", 0));
    due(1, priceBy(x, "line 1 when last=-3 and step=0;", 0));
    due(1, priceBy(x, "line 1 when last=0 and step=38;", 0));
    due(4, priceBy(x, "line 1 when 1=1;", 0));
    sing(x, 1, 0, 0, 0, 60, 0);
    due(1, priceBy(x, "line 1 when last=60 and step=-60;", 1));
  }

  @Holds(promise = 11, words = "pitch; rest: how many BEATS it rested since; place.")
  static void restsFrom0To30(BrokenFugue x) {
    x.note(0, 0, 0, 0, 1);
    x.note(0, 0, 31, 60, 1);
    due(1, priceBy(x, "line 1 when rest=30 and pitch=60 and place=3;", 0));
    x.note(0, 0, 0, 0, 8);
    due(1, priceBy(x, "line 1 when rest=23;", 0));
    x.note(0, 0, 29, 0, 2);
    due(1, priceBy(x, "line 1 when rest=21 and pitch=0 and place=1;", 0));
    due(1, priceBy(x, "line 1 when rest=0 and pitch=60;", 0));
    x.bar(12);
    due(1, priceBy(x, "line 1 when place=7 and pitch=60;", 0));
    due(1, priceBy(x, "line 1 when place=5 and pitch=0;", 0));
  }

  @Holds(promise = 11, words = "If a clause is so, that is a BREAK, of PRICE SUM (0 at least, 999 at most).")
  static void aBreaksPriceFrom0To999(BrokenFugue x) {
    String[] sums = {"999", "999+1", "998+1", "0", "0-1", "-gap", "gap-7", "gap-8", "999*999*999", "-999*999*999", "1"};
    int[] prices = {999, 999, 999, 0, 0, 0, 0, 0, 999, 0, 1};
    for (int i = 0; i < sums.length; i++) {
      String so = "pair " + sums[i] + " when 1=1;";
      String notSo = "pair " + sums[i] + " when 1=2;";
      due(prices[i], priceBy(twoAtOnce(), so, 0));
      due(1, breakBy(twoAtOnce(), so, 0, NONE, 0));
      due(prices[i], breakBy(twoAtOnce(), so, 0, 0, 4));
      due(0, priceBy(twoAtOnce(), notSo, 0));
      due(0, breakBy(twoAtOnce(), notSo, 0, NONE, 0));
    }
    // Each BREAK for itself: what is above in one does not fill up another.
    due(999, priceBy(twoAtOnce(), "pair 999+500 when 1=1;pair -500 when 1=1;", 0));
    due(999 + 999, priceBy(twoAtOnce(), "pair 999+500 when 1=1;pair 999 when 1=1;", 0));
  }

  @Holds(promise = 11, words = "PRICE of a PIECE by a TEXT: of all BREAKS together.")
  static void aPiecesPriceIsNotBounded(BrokenFugue x) {
    for (int voice = 0; voice < 4; voice++) {
      for (int beat = 0; beat < 32; beat += 8) {
        x.note(0, voice, beat, 5, 8);
      }
    }
    due(0, priceBy(x, "", 0));
    due(0, priceBy(x, "ahead 1=1;beside 1=1;", 0));
    due(32 * 6 * 999, priceBy(x, "pair 999 when 1=1;", 0));
    // Ten clauses: above 1000000.
    due(0, read(x, "pair 999 when 1=1;".repeat(10)));
    due(32 * 6 * 999 * 10, x.price(0, 0));
    due(32 * 6 * 10, x.breaks(0, 0, NONE, 0));
    due(31, x.breaks(0, 0, 32 * 6 * 10 - 1, 0));
    due(9, x.breaks(0, 0, 32 * 6 * 10 - 1, 3));
    due(NONE, x.breaks(0, 0, 32 * 6 * 10, 0));
  }

  @Holds(promise = 11, words = "PRICE of a PIECE.")
  static void theFirstAndLastTextAndPiece(BrokenFugue x) {
    sing(x, 0, 0, 0, 1, 2);
    sing(x, 3, 3, 0, 1, 3, 4);
    for (int text = 0; text < 6; text++) {
      read(x, "line " + text + "+1 when 1=1;");
    }
    due(1, x.price(0, 0));
    due(2, x.price(0, 3));
    due(6, x.price(5, 0));
    due(12, x.price(5, 3));
    due(0, x.price(5, 1));
  }

  @Holds(promise = 11, words = "NONE for others.")
  static void noPriceOfOthers(BrokenFugue x) {
    sing(x, 0, 0, 0, 1, 2);
    due(NONE, x.price(0, 0));
    read(x, "line 1 when 1=1;");
    due(1, x.price(0, 0));
    for (int text : beyond(0, 0)) {
      due(NONE, x.price(text, 0));
    }
    for (int piece : beyond(0, 3)) {
      due(NONE, x.price(0, piece));
    }
    due(NONE, x.price(5, 0));
    due(NONE, x.price(6, 4));
    x.back();
    due(NONE, x.price(0, 0));
  }

  @Holds(promise = 12, words = "BREAKS in order: by BEATS; then pairs by v, then w, each by its clauses in order; then"
      + " lines by VOICES, each by clauses.")
  static void breaksInOrder(BrokenFugue x) {
    for (int voice = 0; voice < 4; voice++) {
      x.note(0, voice, 30, 40 - voice, 1);
      x.note(0, voice, 31, 30 - voice, 1);
    }
    read(x, "line 3 when 1=1;pair 1 when 1=1;line 4 when 1=1;pair 2 when 1=1;");
    due(12 + 12 + 8, x.breaks(0, 0, NONE, 0));
    int i = 0;
    for (int beat = 30; beat < 32; beat++) {
      for (int v = 0; v < 4; v++) {
        for (int w = v + 1; w < 4; w++) {
          breakIs(x, i, beat, v, w, 1, 1);
          breakIs(x, i + 1, beat, v, w, 3, 2);
          i += 2;
        }
      }
    }
    for (int v = 0; v < 4; v++) {
      breakIs(x, i, 31, v, NONE, 0, 3);
      breakIs(x, i + 1, 31, v, NONE, 2, 4);
      i += 2;
    }
    due(NONE, x.breaks(0, 0, i, 0));
  }

  private static void breakIs(BrokenFugue x, int i, int... whats) {
    for (int what = 0; what < whats.length; what++) {
      due(whats[what], x.breaks(0, 0, i, what));
    }
  }

  @Holds(promise = 12, words = "BREAKS: how many (i NONE, whatever what is);")
  static void howManyWhateverWhatIs(BrokenFugue x) {
    read(x, "line 0 when 1=1;");
    due(0, x.breaks(0, 0, NONE, 0));
    sing(x, 0, 0, 0, 5, 6, 7);
    for (int what : new int[] {LOWEST, -2, -1, 0, 1, 4, 5, 100, HIGHEST}) {
      due(2, x.breaks(0, 0, NONE, what));
    }
  }

  @Holds(promise = 12, words = "the i-th: 0 its BEAT, 1 v, 2 w (NONE of a line), 3 its clause's number in the TEXT, 4 its"
      + " PRICE.")
  static void theFirstAndTheLastBreak(BrokenFugue x) {
    x.note(0, 0, 0, 5, 1);
    x.note(0, 1, 0, 5, 1);
    x.note(0, 3, 30, 5, 1);
    x.note(0, 3, 31, 5, 1);
    read(x, "beside 1=1;pair 0-5 when 1=1;ahead 1=1;" + "line 1 when 1=2;".repeat(6)
        + "line 999+1 when 1=1;");
    due(2, x.breaks(0, 0, NONE, 0));
    breakIs(x, 0, 0, 0, 1, 1, 0);
    breakIs(x, 1, 31, 3, NONE, 9, 999);
  }

  @Holds(promise = 12, words = "NONE if there is none such, and for others.")
  static void noBreakOfOthers(BrokenFugue x) {
    sing(x, 0, 0, 0, 5, 6, 7);
    read(x, "line 3 when 1=1;");
    due(3, x.breaks(0, 0, 1, 4));
    due(NONE, x.breaks(0, 0, 2, 4));
    for (int i : new int[] {LOWEST, -2, 2, 3, HIGHEST}) {
      due(NONE, x.breaks(0, 0, i, 0));
    }
    for (int what : beyond(0, 4)) {
      due(NONE, x.breaks(0, 0, 0, what));
    }
    for (int bad : beyond(0, 0)) {
      due(NONE, x.breaks(bad, 0, 0, 0));
      due(NONE, x.breaks(bad, 0, NONE, 0));
    }
    for (int bad : beyond(0, 3)) {
      due(NONE, x.breaks(0, bad, 0, 0));
      due(NONE, x.breaks(0, bad, NONE, 0));
    }
    due(0, x.breaks(0, 3, NONE, 0));
    due(NONE, x.breaks(0, 3, 0, 0));
  }
}
