/** Promises 13 to 17: forms, fits, the cheapest, three together, chance. */
final class BoundariesOfSubjects extends Boundaries {
  private BoundariesOfSubjects() {}

  @Holds(promise = 13, words = "A FORM of a SUBJECT: HEIGHT h, DELAY d, TURNED or not, STRETCH m (1, 2):")
  static void formsToTheirBounds(BrokenFugue x) {
    longSubject(x, 0, 0);
    subjectOf(x, 1, 1);
    read(x, "pair low*10+place when cross=0;pair 500+high*10+place when cross=1;");
    x.bar(12);
    due(190, x.fit(0, 0, 1, -12, 0, false, 1));
    due(198, x.fit(0, 0, 1, -12, 8, false, 1));
    due(500 + 430, x.fit(0, 0, 1, 12, 0, false, 1));
    due(500 + 438, x.fit(0, 0, 1, 12, 8, false, 1));
    due(170, x.fit(0, 0, 1, -12, 0, true, 1));
    due(500 + 418, x.fit(0, 0, 1, 12, 8, true, 1));
    due(190 + 191, x.fit(0, 0, 1, -12, 0, false, 2));
    due(500 + 418 + 500 + 419, x.fit(0, 0, 1, 12, 8, true, 2));
  }

  @Holds(promise = 13, words = "its BEAT b sounds at the BEATS d + m b, .. (m of them), the first of these as b does"
      + " (beginning or held), the others held, at PITCH 30 + h + r, or 30 + h - r if TURNED.")
  static void theLastBeatSoundsAt30And31(BrokenFugue x) {
    subjectOf(x, 0, 0);
    x.subject(1, 10, 3, 1);
    x.subject(1, 11, 5, 1);
    read(x, "line 100+pitch when place=8 and rest=0 and step=2;line 200+pitch when place=8 and rest=0 and step=-2;");
    x.bar(11);
    // BEATS 28, 29 and 30, 31: 30 mod 11 is 8, as is 19 alone.
    due(100 + 35, x.fit(0, 0, 1, 0, 8, false, 2));
    due(200 + 30 + 12 - 5, x.fit(0, 0, 1, 12, 8, true, 2));
    due(100 + 30 - 12 + 5, x.fit(0, 0, 1, -12, 8, false, 1));
    due(0, x.fit(0, 0, 1, 0, 7, false, 2));
    due(0, x.fit(0, 0, 1, 0, 7, false, 1));
  }

  @Holds(promise = 13, words = "its BEAT b sounds at the BEATS d + m b, .. (m of them), the first of these as b does"
      + " (beginning or held), the others held, at PITCH 30 + h + r, or 30 + h - r if TURNED.")
  static void pitchesBelow0AndAbove60Sound(BrokenFugue x) {
    longSubject(x, 0, 0);
    subjectOf(x, 1, 20);
    subjectOf(x, 2, -20);
    read(x, "pair 1 when high=62;pair 2 when low=-2;pair 4 when gap=32;");
    due(1 + 4, x.fit(0, 0, 1, 12, 0, false, 1));
    due(2 + 4, x.fit(0, 0, 1, -12, 0, true, 1));
    due(2 + 4, x.fit(0, 0, 2, -12, 0, false, 1));
    due(1 + 4, x.fit(0, 0, 2, 12, 0, true, 1));
    due(2 * (1 + 4), x.fit(0, 0, 2, 12, 0, true, 2));
    due(0, x.fit(0, 0, 2, 11, 0, true, 1));
  }

  @Holds(promise = 13, words = "its BEAT b sounds at the BEATS d + m b, .. (m of them), the first of these as b does"
      + " (beginning or held), the others held, at PITCH 30 + h + r, or 30 + h - r if TURNED.")
  static void whatIsStretchedIsHeld(BrokenFugue x) {
    longSubject(x, 0, 0);
    x.subject(1, 0, 0, 2);
    subjectOf(x, 2, 0, 0);
    subjectOf(x, 3, 0, -100, 0);
    read(x, "pair 1 when hold=1;");
    read(x, "pair 1 when 1=1;");
    read(x, "line rest when 1=1;");
    due(1, x.fit(0, 0, 1, 0, 0, false, 1));
    due(3, x.fit(0, 0, 1, 0, 0, false, 2));
    due(0, x.fit(0, 0, 2, 0, 0, false, 1));
    due(2, x.fit(0, 0, 2, 0, 0, false, 2));
    due(4, x.fit(1, 0, 2, 0, 0, false, 2));
    // Rests are stretched as well.
    due(1, x.fit(2, 0, 3, 0, 0, false, 1));
    due(2, x.fit(2, 0, 3, 0, 0, true, 2));
  }

  @Holds(promise = 13, words = "A FIT of two SUBJECTS: the one (h 0, d 0, as it is) as VOICE 0, a FORM of the other as"
      + " VOICE 1; its PRICE as of a PIECE of these.")
  static void theOneIsVoice0AsItIs(BrokenFugue x) {
    subjectOf(x, 0, -100, -20, 20);
    x.subject(0, 11, 20, 1);
    subjectOf(x, 1, -20);
    // 10 at 1, 50 at 2, 50 at 11: 30 + 12 - 20 is below 50, and above 10.
    read(x, "pair 1 when cross=1;pair 2 when cross=0;pair 10 when mine=40;line 100 when step=40;line 200 when step=0;");
    due(300, x.fit(0, 0, 1, 12, 0, false, 1));
    due(301, x.fit(0, 0, 1, 12, 1, false, 1));
    due(302 + 10, x.fit(0, 0, 1, 12, 2, false, 1));
    due(300 + 1 + 2 + 10, x.fit(0, 0, 1, 12, 1, false, 2));
    // The other way round it is the other that moves.
    due(300, x.fit(0, 1, 0, 12, 0, false, 1));
    // Of itself, as it is.
    due(2 * 300 + 3 * 2 + 10, x.fit(0, 0, 0, 0, 0, false, 1));
  }

  @Holds(promise = 13, words = "PRICE of a FIT (h -12 .. 12, d 0 .. 8, m 1, 2).")
  static void argumentsOfAFit(BrokenFugue x) {
    subjectOf(x, 0, 0);
    subjectOf(x, 5, 0);
    read(x, "pair 1+gap when 1=1;");
    due(13, x.fit(0, 0, 5, -12, 0, false, 1));
    due(13, x.fit(0, 5, 0, 12, 0, true, 2));
    due(0, x.fit(0, 0, 5, 0, 8, false, 2));
    for (int bad : beyond(-12, 12)) {
      due(NONE, x.fit(0, 0, 5, bad, 0, false, 1));
    }
    for (int bad : beyond(0, 8)) {
      due(NONE, x.fit(0, 0, 5, 0, bad, true, 1));
    }
    for (int bad : beyond(1, 2)) {
      due(NONE, x.fit(0, 0, 5, 0, 0, false, bad));
    }
  }

  @Holds(promise = 13, words = "NONE for others, and if one has no NOTES.")
  static void noFitOfOthers(BrokenFugue x) {
    subjectOf(x, 0, 0);
    subjectOf(x, 5, 0);
    due(NONE, x.fit(0, 0, 5, 0, 0, false, 1));
    read(x, "pair 1 when 1=1;");
    due(1, x.fit(0, 0, 5, 0, 0, false, 1));
    for (int bad : beyond(0, 0)) {
      due(NONE, x.fit(bad, 0, 5, 0, 0, false, 1));
    }
    for (int bad : beyond(0, 5)) {
      due(NONE, x.fit(0, bad, 5, 0, 0, false, 1));
      due(NONE, x.fit(0, 0, bad, 0, 0, false, 1));
    }
    due(NONE, x.fit(0, 1, 0, 0, 0, false, 1));
    due(NONE, x.fit(0, 0, 1, 0, 0, false, 1));
    due(NONE, x.fit(0, 1, 1, 0, 0, false, 1));
    // One that has rests alone again.
    x.subject(5, 0, -100, 1);
    due(NONE, x.fit(0, 0, 5, 0, 0, false, 1));
  }

  @Holds(promise = 14, words = "FORMS: h -12 .. 12, d 0 .. 8, TURNED or not, m 1, 2; in order: by m, then TURNED (not"
      + " first), then d, then h.")
  static void the900FormsInOrder(BrokenFugue x) {
    subjectOf(x, 0, 0);
    subjectOf(x, 1, 0);
    read(x, "");
    due(900, x.fits(0, 0, 1, 0, NONE));
    for (int i : new int[] {0, 1, 24, 25, 26, 224, 225, 249, 250, 449, 450, 674, 675, 698, 700, 898, 899}) {
      int h = i % 25;
      int d = i / 25 % 9;
      int turned = i / 225 % 2;
      int m = i / 450;
      due(10000 * m + 5000 * turned + 100 * d + h, x.fits(0, 0, 1, 0, i));
    }
    due(824, x.fits(0, 0, 1, 0, 224));
    due(5000, x.fits(0, 0, 1, 0, 225));
    due(10000, x.fits(0, 0, 1, 0, 450));
    due(15824, x.fits(0, 0, 1, 0, 899));
    due(NONE, x.fits(0, 0, 1, 0, 900));
  }

  @Holds(promise = 14, words = "FITS by LIMIT: those of PRICE LIMIT or less.")
  static void priceAsTheLimitFits(BrokenFugue x) {
    subjectOf(x, 0, 0);
    subjectOf(x, 1, 0);
    // At delay 0 alone both sound: 100 FORMS cost 7.
    read(x, "pair 7 when 1=1;");
    due(800, x.fits(0, 0, 1, 0, NONE));
    due(800, x.fits(0, 0, 1, 6, NONE));
    due(900, x.fits(0, 0, 1, 7, NONE));
    due(900, x.fits(0, 0, 1, 8, NONE));
    due(100, x.fits(0, 0, 1, 6, 0));
    due(0, x.fits(0, 0, 1, 7, 0));
    due(15824, x.fits(0, 0, 1, 6, 799));
    due(NONE, x.fits(0, 0, 1, 6, 800));
  }

  @Holds(promise = 14, words = "FITS by LIMIT (0 .. 1000000): how many (i NONE), the i-th FORM: 10000 (m - 1) + 5000 if"
      + " TURNED + 100 d + h + 12.")
  static void limitsFrom0To1000000(BrokenFugue x) {
    longSubject(x, 0, 0);
    longSubject(x, 1, 0);
    read(x, "line 999 when 1=1;pair 999 when 1=1;");
    due(0, x.fits(0, 0, 1, 0, NONE));
    due(900, x.fits(0, 0, 1, 1000000, NONE));
    due(15824, x.fits(0, 0, 1, 1000000, 899));
    due(900, x.fits(0, 0, 1, 999999, NONE));
    for (int limit : beyond(0, 1000000)) {
      due(NONE, x.fits(0, 0, 1, limit, NONE));
      due(NONE, x.fits(0, 0, 1, limit, 0));
    }
  }

  @Holds(promise = 14, words = "NONE if there is none such, and for others, and if one has no NOTES.")
  static void noFitsOfOthers(BrokenFugue x) {
    subjectOf(x, 0, 0);
    subjectOf(x, 5, 0);
    due(NONE, x.fits(0, 0, 5, 0, NONE));
    read(x, "pair 1 when 1=1;");
    due(800, x.fits(0, 0, 5, 0, NONE));
    for (int i : new int[] {LOWEST, -2, 800, 899, 900, HIGHEST}) {
      due(NONE, x.fits(0, 0, 5, 0, i));
    }
    for (int bad : beyond(0, 0)) {
      due(NONE, x.fits(bad, 0, 5, 0, NONE));
    }
    for (int bad : beyond(0, 5)) {
      due(NONE, x.fits(0, bad, 5, 0, NONE));
      due(NONE, x.fits(0, 0, bad, 0, NONE));
    }
    due(NONE, x.fits(0, 1, 5, 0, NONE));
    due(NONE, x.fits(0, 0, 4, 0, NONE));
    x.subject(0, 0, -100, 1);
    due(NONE, x.fits(0, 0, 5, 0, NONE));
    due(NONE, x.fits(0, 5, 0, 1000000, 0));
  }

  @Holds(promise = 15, words = "The cheapest FIT: 0 PRICE, 1 FORM (as fits() tells it), the first such.")
  static void theFirstOfLikeFits(BrokenFugue x) {
    subjectOf(x, 0, 0);
    subjectOf(x, 1, 0);
    read(x, "");
    due(0, x.cheapest(0, 0, 1, 0));
    due(0, x.cheapest(0, 0, 1, 1));
    read(x, "pair 999 when 1=1;");
    due(0, x.cheapest(1, 0, 1, 0));
    due(100, x.cheapest(1, 0, 1, 1));
    // All of them cost as much, and more than nothing.
    longSubject(x, 2, 0);
    read(x, "line 999 when 1=1;");
    due(2 * 999, x.cheapest(2, 0, 2, 0));
    due(0, x.cheapest(2, 0, 2, 1));
  }

  @Holds(promise = 15, words = "The cheapest FIT: 0 PRICE, 1 FORM (as fits() tells it), the first such.")
  static void theLastFormAlone(BrokenFugue x) {
    subjectOf(x, 0, 0);
    subjectOf(x, 1, 0, -100, 1);
    x.bar(12);
    // Down for turned, two BEATS of rest for stretched, BEAT 8 + 2 * 2, PITCH 30 + 12 - 1.
    read(x, "line 7 when place#0 or rest#2 or step#-1 or pitch#41;line 1 when 1=1;");
    due(1, x.cheapest(0, 0, 1, 0));
    due(15824, x.cheapest(0, 0, 1, 1));
    due(1, x.fits(0, 0, 1, 1, NONE));
    due(15824, x.fits(0, 0, 1, 1, 0));
    due(0, x.fits(0, 0, 1, 0, NONE));
    due(NONE, x.fits(0, 0, 1, 0, 0));
  }

  @Holds(promise = 15, words = "NONE for others, and if one has no NOTES.")
  static void noCheapestOfOthers(BrokenFugue x) {
    subjectOf(x, 0, 0);
    subjectOf(x, 5, 0);
    due(NONE, x.cheapest(0, 0, 5, 0));
    read(x, "");
    due(0, x.cheapest(0, 0, 5, 0));
    due(0, x.cheapest(0, 5, 5, 1));
    for (int bad : beyond(0, 1)) {
      due(NONE, x.cheapest(0, 0, 5, bad));
    }
    for (int bad : beyond(0, 0)) {
      due(NONE, x.cheapest(bad, 0, 5, 0));
    }
    for (int bad : beyond(0, 5)) {
      due(NONE, x.cheapest(0, bad, 5, 0));
      due(NONE, x.cheapest(0, 0, bad, 1));
    }
    due(NONE, x.cheapest(0, 1, 5, 0));
    due(NONE, x.cheapest(0, 0, 1, 0));
    x.subject(0, 0, -100, 4);
    due(NONE, x.cheapest(0, 0, 5, 0));
  }

  @Holds(promise = 16, words = "THREE SUBJECTS: the first as it is, FORMS of the second and third (h -5 .. 5, d 0 .. 3,"
      + " TURNED or not, m 1; in that order) as VOICES 1, 2:")
  static void theFirstAndTheLastFormsOfThree(BrokenFugue x) {
    subjectOf(x, 0, 0);
    subjectOf(x, 1, 0, 1);
    subjectOf(x, 2, 0, 2);
    read(x, "");
    due(0, x.three(0, 0, 1, 2, 0));
    due(7, x.three(0, 0, 1, 2, 1));
    due(7, x.three(0, 0, 1, 2, 2));
    // Down for turned; second notes at BEAT 4; PITCHES 30 + 5 - 1, 30 + 5 - 2.
    read(x, "line 1 when place#0 or step>0 or step=-1 and pitch#34 or step=-2 and pitch#33;");
    due(0, x.three(1, 0, 1, 2, 0));
    due(5317, x.three(1, 0, 1, 2, 1));
    due(5317, x.three(1, 0, 1, 2, 2));
    // The last that is not turned, and the first that is.
    read(x, "line 1 when step=1 and (pitch-36)*(pitch-36)+(place-0)*(place-0)#0 or step=-2 and"
        + " (pitch-23)*(pitch-23)+(place-1)*(place-1)#0 or step=2 or step=-1;");
    due(0, x.three(2, 0, 1, 2, 0));
    due(317, x.three(2, 0, 1, 2, 1));
    due(5007, x.three(2, 0, 1, 2, 2));
  }

  @Holds(promise = 16, words = "THREE SUBJECTS: the first as it is, FORMS of the second and third (h -5 .. 5, d 0 .. 3,"
      + " TURNED or not, m 1; in that order) as VOICES 1, 2:")
  static void noFormBeyondThoseOfThree(BrokenFugue x) {
    longSubject(x, 0, 0);
    subjectOf(x, 1, 0);
    subjectOf(x, 2, 1);
    // 35 at most and 36 at most: with one more the second too would be free.
    read(x, "pair 1 when high<36;");
    due(1, x.three(0, 0, 1, 2, 0));
    due(7, x.three(0, 0, 1, 2, 1));
    due(17, x.three(0, 0, 1, 2, 2));
    // 25 at least, and 24.
    read(x, "pair 1 when low>24;");
    due(1, x.three(1, 0, 1, 2, 0));
    // BEAT 3 at the latest.
    x.bar(12);
    read(x, "pair 1 when place<4;");
    due(2, x.three(2, 0, 1, 2, 0));
    // Never stretched: rests of one BEAT stay so.
    subjectOf(x, 3, 0);
    subjectOf(x, 4, 0, -100, 0);
    read(x, "line 1 when rest<2;");
    due(1, x.three(3, 1, 3, 4, 0));
    due(0, x.cheapest(3, 1, 4, 0));
  }

  @Holds(promise = 16, words = "THREE SUBJECTS: the first as it is, FORMS of the second and third (h -5 .. 5, d 0 .. 3,"
      + " TURNED or not, m 1; in that order) as VOICES 1, 2:")
  static void theirVoicesAre0And1And2(BrokenFugue x) {
    longSubject(x, 0, 0);
    longSubject(x, 1, 15);
    longSubject(x, 2, 20);
    // 30 against 40 .. 50 or 10 .. 20, and 45 .. 55 or 5 .. 15; two of three pairs cross as long as none is turned.
    read(x, "pair 1 when cross=1 and place=3;");
    due(0, x.three(0, 0, 1, 2, 0));
    due(5007, x.three(0, 0, 1, 2, 1));
    due(5007, x.three(0, 0, 1, 2, 2));
    read(x, "pair 1 when cross=0 and place=3;");
    due(0, x.three(1, 0, 1, 2, 0));
    due(7, x.three(1, 0, 1, 2, 1));
    due(7, x.three(1, 0, 1, 2, 2));
  }

  @Holds(promise = 16, words = "the least PRICE, of like ones the first FORM of the second, then of the third.")
  static void theFirstFormOfTheSecondFirst(BrokenFugue x) {
    longSubject(x, 0, 0);
    subjectOf(x, 1, 2);
    subjectOf(x, 2, 9);
    // The first stays on 30; the second sounds 27 .. 37 (turned 23 .. 33), the third 34 .. 44 (turned 16 .. 26).
    read(x, "pair 8 when gap<4;pair 1 when gap#4 and gap#7;");
    due(0, x.three(0, 0, 1, 2, 0));
    due(14, x.three(0, 0, 1, 2, 1));
    due(107, x.three(0, 0, 1, 2, 2));
    due(7, x.three(0, 0, 2, 1, 1));
    due(114, x.three(0, 0, 2, 1, 2));
  }

  @Holds(promise = 16, words = "THREE: 0 PRICE, 1, 2 the FORMS of the second, third (as fits() tells them).")
  static void whatsOfThree(BrokenFugue x) {
    longSubject(x, 3, 0);
    subjectOf(x, 4, 0);
    subjectOf(x, 5, 0);
    read(x, "pair 1 when 1=1;");
    // Each once with the first; at two delays the others do not meet.
    due(2, x.three(0, 3, 4, 5, 0));
    due(7, x.three(0, 3, 4, 5, 1));
    due(107, x.three(0, 3, 4, 5, 2));
    for (int what : beyond(0, 2)) {
      due(NONE, x.three(0, 3, 4, 5, what));
    }
    // The lines of each count once: two of the first, one of each other.
    subjectOf(x, 4, 0, 1);
    subjectOf(x, 5, 0, 1);
    read(x, "line 1 when 1=1;");
    due(4, x.three(1, 3, 4, 5, 0));
    due(7, x.three(1, 3, 4, 5, 1));
    due(7, x.three(1, 3, 4, 5, 2));
  }

  @Holds(promise = 16, words = "the least PRICE, of like ones the first FORM of the second, then of the third.")
  static void allFormsOfThreeAlike(BrokenFugue x) {
    longSubject(x, 0, 0);
    longSubject(x, 1, 1);
    longSubject(x, 2, 2);
    x.bar(12);
    // At BEAT 5 all three sound, whatever their FORMS are.
    read(x, "pair 1 when place=5;");
    due(3, x.three(0, 0, 1, 2, 0));
    due(7, x.three(0, 0, 1, 2, 1));
    due(7, x.three(0, 0, 1, 2, 2));
  }

  @Holds(promise = 16, words = "NONE for others, two alike, and if one has no NOTES.")
  static void noThreeOfOthers(BrokenFugue x) {
    subjectOf(x, 0, 0);
    subjectOf(x, 1, 0);
    subjectOf(x, 5, 0);
    due(NONE, x.three(0, 0, 1, 5, 0));
    read(x, "");
    due(0, x.three(0, 0, 1, 5, 0));
    due(NONE, x.three(0, 0, 0, 5, 0));
    due(NONE, x.three(0, 0, 5, 0, 0));
    due(NONE, x.three(0, 5, 0, 0, 0));
    due(NONE, x.three(0, 1, 1, 1, 0));
    for (int bad : beyond(0, 0)) {
      due(NONE, x.three(bad, 0, 1, 5, 0));
    }
    for (int bad : beyond(0, 5)) {
      due(NONE, x.three(0, bad, 1, 5, 0));
      due(NONE, x.three(0, 0, bad, 5, 0));
      due(NONE, x.three(0, 0, 1, bad, 0));
    }
    due(NONE, x.three(0, 2, 1, 5, 0));
    due(NONE, x.three(0, 0, 2, 5, 0));
    due(NONE, x.three(0, 0, 1, 2, 0));
    x.subject(1, 0, -100, 1);
    due(NONE, x.three(0, 0, 1, 5, 0));
  }

  /** A text by which a row of three steps alone costs nothing. */
  private static String inOrder(int first, int second, int third) {
    return "line 1 when last=0 and step#" + first + ";line 1 when last=" + first + " and step#" + second
        + ";line 1 when last=" + second + " and step#" + third + ";";
  }

  /** One note as the first subject, and 0, 1, 3, 6 as the second: changes 1, 2, 3. */
  private static void threeChanges(BrokenFugue x) {
    subjectOf(x, 0, 0);
    subjectOf(x, 1, 0, 1, 3, 6);
  }

  @Holds(promise = 17, words = "CHANCE of a FIT's LIMIT: n (1 .. 40) SUBJECTS are made of the other one:")
  static void from1To40Made(BrokenFugue x) {
    threeChanges(x);
    read(x, inOrder(1, 2, 3));
    // From SEED 2: the first made one stays as it is, and so does the 40th.
    due(1, x.chance(0, 0, 1, 0, 1, 2));
    due(1, x.chance(0, 0, 1, 0, 2, 2));
    due(7, x.chance(0, 0, 1, 0, 39, 2));
    due(8, x.chance(0, 0, 1, 0, 40, 2));
    for (int n : beyond(1, 40)) {
      due(NONE, x.chance(0, 0, 1, 0, n, 2));
    }
    // The other one itself stays as it is, and so does the one.
    due(0, x.cheapest(0, 0, 1, 0));
    due(4, x.about(31));
    due(1, x.about(30));
  }

  @Holds(promise = 17, words = "its PITCHES' changes from NOTE to NOTE (as many as it has NOTES, less 1;")
  static void asManyChangesAsNotesLess1(BrokenFugue x) {
    subjectOf(x, 0, 0);
    // One note: no change.
    x.subject(1, 3, 20, 4);
    read(x, "line 1 when 1=1;");
    due(40, x.chance(0, 0, 1, 0, 40, 0));
    due(40, x.chance(0, 0, 1, 0, 40, 9999));
    // Two: one, that stays.
    subjectOf(x, 2, -20, 20);
    read(x, "line 1 when step#40;");
    due(40, x.chance(1, 0, 2, 0, 40, 0));
    due(40, x.chance(1, 0, 2, 0, 40, 9999));
    // Two notes alike: a change of 0.
    subjectOf(x, 3, 7, 7);
    read(x, "line 1 when step#0;");
    due(40, x.chance(2, 0, 3, 0, 40, 1));
  }

  @Holds(promise = 17, words = "its PITCHES' changes from NOTE to NOTE (as many as it has NOTES, less 1;")
  static void elevenChangesOfTwelveNotes(BrokenFugue x) {
    subjectOf(x, 0, 0);
    subjectOf(x, 1, 0, 1, -1, 2, -2, 3, -3, 4, -4, 5, -5, 6);
    // 1, -2, 3, .. 11 from SEED 0: 9, -10, 7, 5, 3, -2, -6, 11, -4, -8, 1.
    read(x, "line 1 when last=0 and step#9;line 1 when last=9 and step#-10;line 1 when last=-10 and step#7;"
        + "line 1 when last=7 and step#5;line 1 when last=5 and step#3;line 1 when last=3 and step#-2;");
    read(x, "line 1 when last=-2 and step#-6;line 1 when last=-6 and step#11;line 1 when last=11 and step#-4;"
        + "line 1 when last=-4 and step#-8;line 1 when last=-8 and step#1;line 1 when last=1;"
        + "line 1 when last=0 and step#9;");
    due(1, x.chance(0, 0, 1, 0, 1, 0));
    due(1, x.chance(1, 0, 1, 0, 1, 0));
    due(0, x.chance(0, 0, 1, 0, 1, 9999));
    due(0, x.chance(1, 0, 1, 0, 1, 9999));
    // From SEED 9999: 9, 5, 7, -4, -6, 11, 3, -2, -10, -8, 1.
    read(x, "line 1 when last=0 and step#9;line 1 when last=9 and step#5;line 1 when last=5 and step#7;"
        + "line 1 when last=7 and step#-4;line 1 when last=-4 and step#-6;line 1 when last=-6 and step#11;");
    read(x, "line 1 when last=11 and step#3;line 1 when last=3 and step#-2;line 1 when last=-2 and step#-10;"
        + "line 1 when last=-10 and step#-8;line 1 when last=-8 and step#1;line 1 when last=1;"
        + "line 1 when last=0 and step#9;");
    due(1, x.chance(2, 0, 1, 0, 1, 9999));
    due(1, x.chance(3, 0, 1, 0, 1, 9999));
    due(0, x.chance(2, 0, 1, 0, 1, 0));
    due(0, x.chance(3, 0, 1, 0, 1, 0));
  }

  @Holds(promise = 17, words = "rests stay as they are, they don't break this row) are shuffled:")
  static void restsStayAsTheyAre(BrokenFugue x) {
    subjectOf(x, 0, 0);
    // Rests ahead, between and behind: 0, 5 and behind two BEATS 14.
    x.subject(1, 2, 0, 2);
    x.subject(1, 4, 5, 1);
    x.subject(1, 7, 14, 2);
    read(x, "line 1 when rest=0 and step#9;line 1 when rest=2 and step#5;line 1 when rest#0 and rest#2;");
    read(x, "line 1 when rest=0 and step#5;line 1 when rest=2 and step#9;line 1 when rest#0 and rest#2;");
    // Two changes change places from an even SEED alone.
    due(40, x.chance(0, 0, 1, 0, 40, 0));
    due(0, x.chance(0, 0, 1, 0, 40, 1));
    due(0, x.chance(1, 0, 1, 0, 40, 9998));
    due(40, x.chance(1, 0, 1, 0, 40, 9999));
    // NOTES are as long as they were.
    longSubject(x, 2, 0);
    read(x, "pair 1 when hold=1;pair 50 when hold=0;");
    x.subject(3, 0, 0, 3);
    x.subject(3, 3, 1, 4);
    // Stretched, at delay 8, they meet at 8 .. 11, where both begin once.
    due(0, x.chance(2, 2, 3, 50 + 2, 40, 0));
    due(40, x.chance(2, 2, 3, 50 + 3, 40, 0));
  }

  @Holds(promise = 17, words = "for i from the last on down to 1 the i-th and the (X mod (i + 1))-th change places,")
  static void fromTheLastOnDownTo1(BrokenFugue x) {
    threeChanges(x);
    int[][] rows = {{3, 2, 1}, {3, 1, 2}, {1, 2, 3}, {2, 1, 3}, {3, 2, 1}};
    int[] seeds = {0, 1, 2, 9998, 9999};
    x.image();
    for (int i = 0; i < seeds.length; i++) {
      x.back();
      read(x, inOrder(rows[i][0], rows[i][1], rows[i][2]));
      due(1, x.chance(0, 0, 1, 0, 1, seeds[i]));
      for (int k = 0; k < seeds.length; k++) {
        boolean same = rows[i][0] == rows[k][0] && rows[i][1] == rows[k][1];
        due(same, x.chance(0, 0, 1, 0, 1, seeds[k]) == 1);
      }
    }
  }

  @Holds(promise = 17, words = "X being SEED (0 .. 9999) + 1000 times the made one's number (from 0) first, and (X * 131 +"
      + " 17) mod 30013 after each;")
  static void seedsFrom0To9999(BrokenFugue x) {
    threeChanges(x);
    read(x, inOrder(1, 2, 3));
    read(x, inOrder(3, 2, 1));
    int[] counts = {0, 0, 1, 7, 7};
    int[] made = {1, 2, 3, 39, 40};
    for (int i = 0; i < made.length; i++) {
      due(counts[i], x.chance(0, 0, 1, 0, made[i], 0));
    }
    due(6, x.chance(0, 0, 1, 0, 40, 9999));
    due(7, x.chance(1, 0, 1, 0, 40, 9999));
    due(6, x.chance(1, 0, 1, 0, 39, 9999));
    due(8, x.chance(1, 0, 1, 0, 40, 0));
    for (int seed : beyond(0, 9999)) {
      due(NONE, x.chance(0, 0, 1, 0, 1, seed));
    }
  }

  @Holds(promise = 17, words = "the first PITCH stays.")
  static void theFirstPitchStays(BrokenFugue x) {
    subjectOf(x, 0, 0);
    subjectOf(x, 1, 20, 19, 17);
    subjectOf(x, 2, -100, -20, 20, 19);
    // The note ahead is highest where the first stays: 30 + 12 + 20.
    read(x, "line 1 when last=0 and pitch-step<62;");
    read(x, "line 1 when last=0 and pitch-step<63;");
    read(x, "line 1 when last=0 and pitch-step>-2;");
    read(x, "line 1 when last=0 and pitch-step>-3;");
    due(40, x.chance(0, 0, 1, 0, 40, 0));
    due(40, x.chance(0, 0, 1, 0, 40, 9999));
    due(0, x.chance(1, 0, 1, 0, 40, 9999));
    due(40, x.chance(2, 0, 2, 0, 40, 0));
    due(40, x.chance(2, 0, 2, 0, 40, 9999));
    due(0, x.chance(3, 0, 2, 0, 40, 9999));
  }

  @Holds(promise = 17, words = "ODDS: of how many of these the cheapest FORM has a PRICE of LIMIT or less.")
  static void theCheapestFormAsTheLimit(BrokenFugue x) {
    longSubject(x, 0, 0);
    subjectOf(x, 1, 0, 1, 3, 6);
    // Two lines of the one, three of the other: 5 each.
    read(x, "line 5 when 1=1;");
    due(0, x.chance(0, 0, 1, 0, 40, 7));
    due(0, x.chance(0, 0, 1, 24, 40, 7));
    due(40, x.chance(0, 0, 1, 25, 40, 7));
    due(40, x.chance(0, 0, 1, 1000000, 40, 7));
    for (int limit : beyond(0, 1000000)) {
      due(NONE, x.chance(0, 0, 1, limit, 40, 7));
    }
    // Be it the last FORM that is so cheap.
    subjectOf(x, 2, 0);
    subjectOf(x, 3, 0, -100, 1);
    x.bar(12);
    read(x, "line 7 when place#0 or rest#2 or step#-1 or pitch#41;line 1 when 1=1;");
    due(0, x.chance(1, 2, 3, 0, 40, 0));
    due(40, x.chance(1, 2, 3, 1, 40, 0));
  }

  @Holds(promise = 17, words = "CHANCE: of n made ones.")
  static void noneOrAllOfThem(BrokenFugue x) {
    subjectOf(x, 4, 0);
    subjectOf(x, 5, 0, 1, 2);
    read(x, "");
    read(x, "line 1 when 1=1;");
    for (int n : new int[] {1, 2, 39, 40}) {
      due(n, x.chance(0, 4, 5, 0, n, 5));
      due(0, x.chance(1, 4, 5, 0, n, 5));
      due(0, x.chance(1, 4, 5, 1, n, 5));
      due(n, x.chance(1, 4, 5, 2, n, 5));
      due(n, x.chance(1, 5, 4, 2, n, 5));
    }
  }

  @Holds(promise = 17, words = "NONE for others, and if one has no NOTES.")
  static void noChanceOfOthers(BrokenFugue x) {
    subjectOf(x, 0, 0);
    subjectOf(x, 5, 0);
    due(NONE, x.chance(0, 0, 5, 0, 1, 0));
    read(x, "");
    due(1, x.chance(0, 0, 5, 0, 1, 0));
    due(1, x.chance(0, 5, 5, 0, 1, 0));
    for (int bad : beyond(0, 0)) {
      due(NONE, x.chance(bad, 0, 5, 0, 1, 0));
    }
    for (int bad : beyond(0, 5)) {
      due(NONE, x.chance(0, bad, 5, 0, 1, 0));
      due(NONE, x.chance(0, 0, bad, 0, 1, 0));
    }
    due(NONE, x.chance(0, 1, 5, 0, 1, 0));
    due(NONE, x.chance(0, 0, 1, 0, 1, 0));
    x.subject(5, 0, -100, 1);
    due(NONE, x.chance(0, 0, 5, 0, 1, 0));
  }
}
