/** Promises 18 to 29: what is learnt, hands, endings, notes made, heads and shapes. */
final class BoundariesOfEndings extends Boundaries {
  private BoundariesOfEndings() {}

  @Holds(promise = 18, words = "LEARNT from a set of PIECES: of all NOTES with one ahead in their VOICE the steps"
      + " (-12 .. 12; beyond as these);")
  static void stepsBeyond12AreAs12(BrokenFugue x) {
    // Steps 12, 13, 35, -60; -11, -12, -13; 11.
    sing(x, 0, 0, 0, 0, 12, 25, 60, 0);
    sing(x, 0, 3, 0, 60, 49, 37, 24, 35);
    due(3, x.seen(1, 12));
    due(3, x.seen(1, -12));
    due(1, x.seen(1, 11));
    due(1, x.seen(1, -11));
    due(0, x.seen(1, 0));
  }

  @Holds(promise = 18, words = "LEARNT from a set of PIECES: of all NOTES with one ahead in their VOICE the steps"
      + " (-12 .. 12; beyond as these);")
  static void aFirstNoteHasNoStep(BrokenFugue x) {
    // One note in each voice; what is held, and rests, are no notes.
    for (int voice = 0; voice < 4; voice++) {
      x.note(0, voice, voice, 10, 8);
    }
    due(0, x.seen(1, 0));
    x.note(0, 0, 31, 10, 1);
    due(1, x.seen(1, 0));
    // The last note of a voice or a piece lies ahead of none in the next.
    sing(x, 1, 0, 0, 10);
    due(1, x.seen(3, 0));
    due(0, x.seen(2, 0));
    // A note that was parted is two.
    x.note(0, 3, 5, NONE, 1);
    due(2, x.seen(1, 0));
  }

  @Holds(promise = 18, words = "SEEN of a step: how often; behind a step: how often it followed just that step in a"
      + " VOICE.")
  static void howOftenInAllVoicesAndPieces(BrokenFugue x) {
    for (int piece = 0; piece < 4; piece++) {
      for (int voice = 0; voice < 4; voice++) {
        sing(x, piece, voice, 29, 20, 25, 20 + piece);
      }
    }
    due(0, x.seen(0, 5));
    due(16, x.seen(15, 5));
    due(4, x.seen(8, 5));
    due(8, x.seen(9, 5));
    due(4, x.seen(15, -5));
    due(4, x.seen(15, -2));
    due(0, x.seen(7, -2));
    due(4, x.seen(8, -2));
    // Behind 5 came -5 thrice now, and -4, -3, -2 four times each.
    x.note(0, 0, 31, NONE, 1);
    due(200, x.follows(15, 0, 0, 20));
    due(266, x.follows(15, 0, 0, 21));
    due(266, x.follows(15, 0, 0, 23));
    due(0, x.follows(15, 0, 0, 19));
  }

  @Holds(promise = 18, words = "SEEN of a step (-12 .. 12) in a set of PIECES (0 .. 15).")
  static void setsFrom0To15(BrokenFugue x) {
    sing(x, 0, 0, 0, 10, 22);
    sing(x, 3, 3, 0, 22, 10);
    due(0, x.seen(0, 12));
    due(1, x.seen(1, 12));
    due(1, x.seen(15, -12));
    due(1, x.seen(8, -12));
    due(0, x.seen(6, -12));
    for (int step = -11; step <= 11; step++) {
      due(0, x.seen(15, step));
    }
  }

  @Holds(promise = 18, words = "NONE for others.")
  static void notSeenOfOthers(BrokenFugue x) {
    sing(x, 0, 0, 0, 10, 22);
    for (int step : beyond(-12, 12)) {
      due(NONE, x.seen(1, step));
    }
    for (int set : new int[] {LOWEST, -1, 16, 17, HIGHEST}) {
      due(NONE, x.seen(set, 12));
    }
  }

  @Holds(promise = 19, words = "STRANGE of a PIECE by a set (itself never counts): thousandths: all (1000 - 1000 * SEEN /"
      + " the most that any step is SEEN, cut) of its steps, by how many it has, cut.")
  static void itselfNeverCounts(BrokenFugue x) {
    sing(x, 0, 0, 0, 10, 11, 12);
    sing(x, 1, 0, 0, 10, 12);
    due(NONE, x.strange(1, 0));
    due(1000, x.strange(2, 0));
    due(1000, x.strange(3, 0));
    due(1000, x.strange(15, 0));
    due(1000, x.strange(3, 1));
    due(NONE, x.strange(2, 1));
    // Its own steps make none of those that the most is sought among.
    sing(x, 1, 1, 0, 10, 11);
    due(0, x.strange(15, 0));
  }

  @Holds(promise = 19, words = "STRANGE of a PIECE by a set (itself never counts): thousandths: all (1000 - 1000 * SEEN /"
      + " the most that any step is SEEN, cut) of its steps, by how many it has, cut.")
  static void from0To1000Cut(BrokenFugue x) {
    // Steps of the other: 1 seven times, 2 thrice, 3 once.
    sing(x, 3, 0, 0, 10, 11, 12, 13, 14, 15, 16, 17, 19, 21, 23, 26);
    sing(x, 0, 0, 0, 10, 11);
    due(0, x.strange(8, 0));
    sing(x, 1, 0, 0, 10, 12);
    due(1000 - 428, x.strange(8, 1));
    sing(x, 1, 0, 2, 15);
    // 1000 - 428 and 1000 - 142.
    due((572 + 858) / 2, x.strange(8, 1));
    sing(x, 1, 0, 3, 16);
    due((572 + 858 + 0) / 3, x.strange(8, 1));
    sing(x, 2, 0, 0, 10, 14);
    due(1000, x.strange(8, 2));
    // Each of its steps as often as it has it: 4 twice, 1 once.
    sing(x, 2, 0, 2, 18, 19);
    due(666, x.strange(8, 2));
    // The other way round: seen at all and the most.
    due((7 * 0 + 3 * 1000 + 1000) / 11, x.strange(1, 3));
    // The first and the last of the 25 steps, -12 twice and 12 once.
    BrokenFugue y = new BrokenFugue();
    sing(y, 3, 0, 0, 60, 48, 36, 48);
    sing(y, 0, 0, 0, 60, 0);
    sing(y, 1, 0, 0, 0, 60);
    due(0, y.strange(8, 0));
    due(500, y.strange(8, 1));
    due((1000 + 1000 + 0) / 3, y.strange(2, 3));
    due((0 + 0 + 1000) / 3, y.strange(1, 3));
  }

  @Holds(promise = 19, words = "STRANGE. NONE: it has no steps, the others have none, and for others.")
  static void noneIsStrange(BrokenFugue x) {
    sing(x, 0, 0, 0, 10, 11);
    sing(x, 1, 0, 0, 10);
    due(NONE, x.strange(2, 0));
    due(NONE, x.strange(14, 0));
    due(NONE, x.strange(0, 0));
    due(NONE, x.strange(1, 1));
    due(NONE, x.strange(1, 2));
    sing(x, 1, 0, 1, 12);
    due(1000, x.strange(1, 1));
    due(1000, x.strange(2, 0));
    for (int set : beyond(0, 15)) {
      due(NONE, x.strange(set, 0));
    }
    for (int piece : beyond(0, 3)) {
      due(NONE, x.strange(15, piece));
    }
  }

  @Holds(promise = 20, words = "FOLLOWS: behind the last NOTE of a VOICE, whose step was s: of steps behind s in the set"
      + " how many thousandths, cut, are such that a PITCH comes.")
  static void thousandthsOfWhatFollows(BrokenFugue x) {
    // Behind 2: 2, 2, 5.
    sing(x, 1, 0, 0, 10, 12, 14, 16, 21);
    sing(x, 0, 3, 30, 20, 22);
    due(666, x.follows(2, 0, 3, 24));
    due(333, x.follows(2, 0, 3, 27));
    due(0, x.follows(2, 0, 3, 22));
    due(0, x.follows(2, 0, 3, 60));
    due(0, x.follows(2, 0, 3, 0));
    sing(x, 1, 1, 0, 10, 12);
    // A step at a voice's end has nothing behind it.
    due(666, x.follows(2, 0, 3, 24));
    sing(x, 1, 2, 0, 10, 12, 14);
    due(750, x.follows(2, 0, 3, 24));
  }

  @Holds(promise = 20, words = "FOLLOWS: behind the last NOTE of a VOICE, whose step was s: of steps behind s in the set"
      + " how many thousandths, cut, are such that a PITCH comes.")
  static void followsBeyond12(BrokenFugue x) {
    // Behind 12 and more: -12 and less.
    sing(x, 1, 0, 0, 0, 13, 0, 60, 0);
    sing(x, 0, 0, 0, 20, 32);
    due(1000, x.follows(2, 0, 0, 20));
    due(1000, x.follows(2, 0, 0, 0));
    due(0, x.follows(2, 0, 0, 21));
    due(0, x.follows(2, 0, 0, 60));
    // And behind these again what is beyond.
    sing(x, 0, 0, 2, 1);
    due(1000, x.follows(2, 0, 0, 13));
    due(1000, x.follows(2, 0, 0, 60));
    due(0, x.follows(2, 0, 0, 12));
    // The voice's last step alone counts, held or rested since.
    x.note(0, 1, 0, 0, 1);
    x.note(0, 1, 8, 50, 8);
    due(1000, x.follows(2, 0, 1, 38));
    due(0, x.follows(2, 0, 1, 39));
    // In the set itself too, where it is in it.
    due(1000, x.follows(1, 0, 1, 0));
    // Of the last piece and voice as well.
    sing(x, 3, 3, 0, 40, 60);
    due(1000, x.follows(2, 3, 3, 48));
    due(0, x.follows(2, 3, 3, 49));
    due(NONE, x.follows(2, 3, 0, 48));
  }

  @Holds(promise = 20, words = "FOLLOWS: a PITCH behind a VOICE's last NOTE.")
  static void pitchesFrom0To60Follow(BrokenFugue x) {
    sing(x, 1, 0, 0, 0, 5, 0, 5, 10);
    sing(x, 0, 0, 0, 0, 5);
    due(500, x.follows(2, 0, 0, 0));
    sing(x, 0, 0, 0, 50, 55);
    due(500, x.follows(2, 0, 0, 60));
    for (int pitch : beyond(0, 60)) {
      due(NONE, x.follows(2, 0, 0, pitch));
    }
  }

  @Holds(promise = 20, words = "NONE for others, without two NOTES, and if nothing was behind its step.")
  static void nothingFollows(BrokenFugue x) {
    sing(x, 1, 0, 0, 0, 5, 10);
    x.note(0, 0, 0, 20, 8);
    due(NONE, x.follows(2, 0, 0, 25));
    due(NONE, x.follows(2, 0, 1, 25));
    x.note(0, 0, 31, 25, 1);
    due(1000, x.follows(2, 0, 0, 30));
    due(NONE, x.follows(0, 0, 0, 30));
    due(NONE, x.follows(1, 0, 0, 30));
    due(NONE, x.follows(12, 0, 0, 30));
    x.note(0, 0, 31, 26, 1);
    due(NONE, x.follows(2, 0, 0, 30));
    x.note(0, 0, 31, 25, 1);
    for (int set : beyond(0, 15)) {
      due(NONE, x.follows(set, 0, 0, 30));
    }
    for (int bad : beyond(0, 3)) {
      due(NONE, x.follows(2, bad, 0, 30));
      due(NONE, x.follows(2, 0, bad, 30));
    }
  }

  @Holds(promise = 21, words = "NEVER: how many PITCHES 0 .. 60 have a step that isn't SEEN at all (none so far behind s"
      + " doesn't matter).")
  static void neverFrom0To61(BrokenFugue x) {
    sing(x, 0, 0, 0, 30);
    due(61, x.never(0, 0, 0));
    due(61, x.never(15, 0, 0));
    sing(x, 1, 0, 0, 10, 10);
    due(60, x.never(2, 0, 0));
    // 12 up: 42 .. 60; 12 down: 0 .. 18.
    sing(x, 1, 1, 0, 0, 12);
    due(60 - 19, x.never(2, 0, 0));
    sing(x, 1, 2, 0, 60, 0);
    due(60 - 19 - 19, x.never(2, 0, 0));
    // Behind 60 and 0 one side is none.
    sing(x, 0, 1, 0, 60);
    sing(x, 0, 2, 0, 0);
    due(60 - 49, x.never(2, 0, 1));
    due(60 - 49, x.never(2, 0, 2));
    // All steps from -12 to 12 seen: none is left.
    sing(x, 2, 0, 0, 0, 1, 3, 6, 10, 15, 21, 28, 36, 45, 55, 44, 34, 25, 17, 10, 4, 9, 5, 2, 0);
    sing(x, 2, 1, 0, 30, 41, 40, 35);
    due(0, x.never(6, 0, 0));
    due(0, x.never(6, 0, 1));
  }

  @Holds(promise = 21, words = "NEVER: how many PITCHES 0 .. 60 have a step that isn't SEEN at all (none so far behind s"
      + " doesn't matter).")
  static void whatIsBehindItsStepDoesNotMatter(BrokenFugue x) {
    // Behind 2 there is 1 alone, and 2 is seen all the same.
    sing(x, 1, 0, 0, 10, 12, 13);
    sing(x, 0, 0, 0, 10, 12);
    due(59, x.never(2, 0, 0));
    due(1000, x.follows(2, 0, 0, 13));
    due(0, x.follows(2, 0, 0, 14));
    due(60, x.never(1, 0, 0));
  }

  @Holds(promise = 21, words = "NEVER behind a VOICE's last NOTE.")
  static void oneNoteIsEnough(BrokenFugue x) {
    sing(x, 1, 0, 0, 10, 22);
    x.note(0, 3, 24, 48, 8);
    due(60, x.never(2, 0, 3));
    x.note(0, 3, 31, 49, 1);
    due(61, x.never(2, 0, 3));
    x.note(0, 3, 31, 47, 1);
    due(61 - 2, x.never(2, 0, 3));
  }

  @Holds(promise = 21, words = "NONE for others, and without a NOTE.")
  static void neverOfNoNote(BrokenFugue x) {
    due(NONE, x.never(0, 0, 0));
    sing(x, 0, 0, 0, 10);
    due(61, x.never(0, 0, 0));
    due(NONE, x.never(0, 0, 1));
    due(NONE, x.never(0, 1, 0));
    for (int set : beyond(0, 15)) {
      due(NONE, x.never(set, 0, 0));
    }
    for (int bad : beyond(0, 3)) {
      due(NONE, x.never(0, bad, 0));
      due(NONE, x.never(0, 0, bad));
    }
    x.note(0, 0, 0, NONE, 1);
    due(NONE, x.never(0, 0, 0));
  }

  @Holds(promise = 22, words = "A PIECE's HAND (0 .. 3; NONE at first).")
  static void handsFrom0To3(BrokenFugue x) {
    for (int piece = 0; piece < 4; piece++) {
      due(NONE, x.about(20 + piece));
    }
    for (int hand = 0; hand < 4; hand++) {
      due(true, x.hand(0, hand));
      due(hand, x.about(20));
      due(true, x.hand(3, hand));
      due(hand, x.about(23));
    }
    due(NONE, x.about(21));
  }

  @Holds(promise = 22, words = "A PIECE's HAND (NONE: none): true.")
  static void handNoneIsNone(BrokenFugue x) {
    due(true, x.hand(1, NONE));
    due(NONE, x.about(21));
    due(true, x.hand(1, 0));
    due(true, x.hand(1, 0));
    due(0, x.about(21));
    due(true, x.hand(1, NONE));
    due(NONE, x.about(21));
  }

  @Holds(promise = 22, words = "False for others.")
  static void aRefusedHandLeavesTheFormer(BrokenFugue x) {
    x.hand(0, 2);
    for (int hand : beyond(-1, 3)) {
      due(false, x.hand(0, hand));
      due(false, x.hand(1, hand));
    }
    for (int piece : beyond(0, 3)) {
      due(false, x.hand(piece, 1));
      due(false, x.hand(piece, NONE));
    }
    due(2, x.about(20));
    due(NONE, x.about(21));
    due(NONE, x.about(23));
  }

  @Holds(promise = 23, words = "APART of two sets: all |thousandths less thousandths| (of its steps, cut) of the 25"
      + " steps.")
  static void apartFrom0To2000(BrokenFugue x) {
    sing(x, 0, 0, 0, 30, 42);
    sing(x, 1, 0, 0, 30, 18);
    due(0, x.apart(1, 1));
    due(0, x.apart(15, 3));
    due(2000, x.apart(1, 2));
    due(2000, x.apart(2, 1));
    due(1000, x.apart(3, 1));
    // Each cut: 333 thrice against 1000.
    sing(x, 2, 0, 0, 30, 42, 30, 30);
    due(667 + 333 + 333, x.apart(4, 1));
    due(667 + 333 + 333, x.apart(1, 4));
    // 142 of each of 7 against 1000 of another: 994 and 1000.
    sing(x, 3, 0, 0, 10, 11, 13, 16, 20, 25, 31, 38);
    due(7 * 142 + 1000, x.apart(8, 1));
    // Of the same row longer: beyond 12 as 12.
    sing(x, 0, 0, 0, 0, 60);
    due(2000, x.apart(1, 2));
    due(667 + 333 + 333, x.apart(4, 1));
  }

  @Holds(promise = 23, words = "APART of two sets. NONE for others, and if one has no steps.")
  static void notApartWithoutSteps(BrokenFugue x) {
    sing(x, 0, 0, 0, 30, 42);
    sing(x, 1, 0, 0, 30);
    due(0, x.apart(1, 15));
    due(NONE, x.apart(1, 2));
    due(NONE, x.apart(2, 1));
    due(NONE, x.apart(0, 1));
    due(NONE, x.apart(1, 0));
    due(NONE, x.apart(0, 0));
    due(NONE, x.apart(2, 2));
    for (int set : beyond(0, 15)) {
      due(NONE, x.apart(set, 1));
      due(NONE, x.apart(1, set));
    }
  }

  @Holds(promise = 24, words = "WHOSE a PIECE is: the HAND whose other PIECES are least APART from it; of like ones the"
      + " lowest;")
  static void ofLikeHandsTheLowest(BrokenFugue x) {
    for (int piece = 0; piece < 4; piece++) {
      sing(x, piece, 0, 0, 10, 11);
    }
    x.hand(1, 3);
    x.hand(2, 0);
    due(0, x.whose(0, 0));
    due(0, x.whose(0, 1));
    due(3, x.whose(2, 0));
    x.hand(3, 3);
    due(0, x.whose(0, 0));
    due(3, x.whose(2, 0));
    // A little farther, and it is the other's.
    sing(x, 2, 0, 2, 13);
    due(3, x.whose(0, 0));
    due(0, x.whose(0, 1));
    x.hand(1, NONE);
    x.hand(3, NONE);
    due(0, x.whose(0, 0));
    due(500 + 500, x.whose(0, 1));
  }

  @Holds(promise = 24, words = "none, if it or all those have no steps.")
  static void whoseWithoutSteps(BrokenFugue x) {
    sing(x, 0, 0, 0, 10, 11);
    sing(x, 1, 0, 0, 10);
    x.hand(1, 0);
    x.hand(2, 1);
    due(NONE, x.whose(0, 0));
    due(NONE, x.whose(0, 1));
    due(NONE, x.whose(1, 0));
    // Its own HAND without another PIECE is none.
    x.hand(0, 2);
    due(NONE, x.whose(0, 0));
    due(NONE, x.whose(3, 0));
    sing(x, 3, 0, 0, 10, 30);
    due(2, x.whose(3, 0));
    due(2000, x.whose(3, 1));
    x.hand(3, 2);
    due(2, x.whose(0, 0));
    due(2, x.whose(3, 0));
    // One without steps of a HAND beside one that has some.
    x.hand(3, 0);
    due(0, x.whose(0, 0));
    due(2000, x.whose(0, 1));
    due(NONE, x.whose(1, 0));
    due(NONE, x.whose(1, 1));
  }

  @Holds(promise = 24, words = "WHOSE: 0 the HAND, 1 how far APART. NONE: none, and for others.")
  static void whoseOfOthers(BrokenFugue x) {
    due(NONE, x.whose(0, 0));
    sing(x, 0, 0, 0, 10, 11);
    sing(x, 3, 0, 0, 10, 11);
    due(NONE, x.whose(0, 0));
    due(NONE, x.whose(0, 1));
    x.hand(3, 0);
    due(0, x.whose(0, 0));
    due(0, x.whose(0, 1));
    for (int what : beyond(0, 1)) {
      due(NONE, x.whose(0, what));
    }
    for (int piece : beyond(0, 3)) {
      due(NONE, x.whose(piece, 0));
      due(NONE, x.whose(piece, 1));
    }
  }

  @Holds(promise = 25, words = "ENDINGS of a PIECE from BEAT k: other PIECES that are as it up to k (all VOICES, BEATS"
      + " ahead of k).")
  static void asItAheadOfK(BrokenFugue x) {
    read(x, "");
    // From 0 all others are, empty ones too.
    sing(x, 0, 0, 0, 10);
    due(3, x.endings(0, 0, 0, 0, 0));
    due(3, x.endings(0, 0, 1, 0, 0));
    due(0, x.endings(0, 0, 0, 1, 0));
    due(2, x.endings(0, 0, 1, 1, 0));
    due(2, x.endings(0, 0, 1, 31, 0));
    // What differs at k or behind does not matter, what differs just ahead of it does.
    x.note(2, 3, 30, 5, 1);
    due(2, x.endings(0, 0, 1, 30, 0));
    due(1, x.endings(0, 0, 1, 31, 0));
    due(NONE, x.endings(0, 0, 1, 31, 12));
    due(0, x.endings(0, 0, 1, 31, 13));
    x.note(3, 0, 31, 5, 1);
    due(1, x.endings(0, 0, 1, 31, 0));
    // Begun is not held.
    x.copy(0, 1);
    x.note(0, 0, 0, 10, 2);
    sing(x, 1, 0, 0, 10, 10);
    due(3, x.endings(0, 0, 0, 0, 0));
    due(1, x.endings(0, 0, 0, 1, 0));
    due(0, x.endings(0, 0, 0, 2, 0));
  }

  @Holds(promise = 25, words = "Each one's WORTH by a TEXT and a set: PRICE of its BREAKS at BEATS k and behind, and"
      + " STRANGE by the set.")
  static void breaksAtKAndBehind(BrokenFugue x) {
    // Lines at 1, 2 and 31.
    sing(x, 1, 0, 0, 10, 11, 12);
    x.note(1, 0, 31, 13, 1);
    x.copy(1, 0);
    read(x, "line 1+place when 1=1;");
    due(2 + 3 + 4, x.endings(0, 0, 0, 0, 11));
    due(2 + 3 + 4, x.endings(0, 0, 0, 1, 11));
    due(3 + 4, x.endings(0, 0, 0, 2, 11));
    due(4, x.endings(0, 0, 0, 3, 11));
    due(4, x.endings(0, 0, 0, 31, 11));
    // By itself it is not strange; by another it may be.
    due(4, x.endings(0, 2, 0, 31, 11));
    due(4, x.endings(0, 1, 0, 31, 11));
    sing(x, 2, 0, 0, 10, 12);
    due(4 + 1000, x.endings(0, 4, 0, 31, 11));
    due(4, x.endings(0, 15, 0, 31, 11));
    // Itself never counts: steps 1, 1, 1, 3 are not strange by themselves.
    sing(x, 1, 1, 28, 10, 13);
    due(4 + 2, x.endings(0, 2, 0, 28, 11));
    due(4 + 2 + 250, x.endings(0, 3, 0, 28, 11));
    // One without steps is not strange either.
    due(0, x.endings(0, 4, 0, 0, 13));
  }

  @Holds(promise = 25, words = "BEST: the least WORTH, of like ones the lowest.")
  static void ofLikeEndingsTheLowest(BrokenFugue x) {
    read(x, "line 1 when 1=1;");
    due(1, x.endings(0, 0, 0, 0, 1));
    due(0, x.endings(0, 0, 1, 0, 1));
    due(0, x.endings(0, 0, 3, 31, 1));
    sing(x, 1, 0, 5, 10, 10);
    due(2, x.endings(0, 0, 0, 5, 1));
    sing(x, 2, 0, 5, 10, 10);
    due(3, x.endings(0, 0, 0, 5, 1));
    sing(x, 3, 0, 5, 10, 10);
    due(1, x.endings(0, 0, 0, 5, 1));
    sing(x, 1, 0, 7, 10);
    due(2, x.endings(0, 0, 0, 5, 1));
    due(0, x.endings(0, 0, 3, 5, 1));
    // The last of all.
    sing(x, 2, 0, 7, 10);
    due(3, x.endings(0, 0, 0, 5, 1));
  }

  @Holds(promise = 25, words = "ENDINGS of a PIECE from BEAT k (0 .. 31; a PIECE that is as it): what 0 how many, 1 BEST,"
      + " 10 + piece: its WORTH (STRANGE 0 if it is none).")
  static void beatsAndWhatsOfEndings(BrokenFugue x) {
    read(x, "line 1 when 1=1;");
    due(3, x.endings(0, 15, 0, 0, 0));
    due(3, x.endings(0, 15, 3, 31, 0));
    due(0, x.endings(0, 15, 3, 31, 10));
    due(0, x.endings(0, 15, 0, 31, 13));
    // Itself is none.
    for (int piece = 0; piece < 4; piece++) {
      due(NONE, x.endings(0, 15, piece, 31, 10 + piece));
    }
    for (int k : beyond(0, 31)) {
      due(NONE, x.endings(0, 15, 0, k, 0));
      due(NONE, x.endings(0, 15, 0, k, 1));
      due(NONE, x.endings(0, 15, 0, k, 11));
    }
    for (int what : new int[] {LOWEST, -1, 2, 3, 9, 14, 20, HIGHEST}) {
      due(NONE, x.endings(0, 15, 0, 0, what));
    }
  }

  @Holds(promise = 25, words = "NONE: none, no ENDING, and for others.")
  static void noEndingOfOthers(BrokenFugue x) {
    due(NONE, x.endings(0, 0, 0, 0, 0));
    read(x, "");
    sing(x, 0, 0, 0, 10);
    // How many is 0 then; BEST and WORTH are none.
    due(0, x.endings(0, 0, 0, 1, 0));
    due(NONE, x.endings(0, 0, 0, 1, 1));
    for (int piece = 0; piece < 4; piece++) {
      due(NONE, x.endings(0, 0, 0, 1, 10 + piece));
    }
    for (int bad : beyond(0, 0)) {
      due(NONE, x.endings(bad, 0, 0, 0, 0));
    }
    for (int bad : beyond(0, 15)) {
      due(NONE, x.endings(0, bad, 0, 0, 0));
      due(NONE, x.endings(0, bad, 0, 0, 11));
    }
    for (int bad : beyond(0, 3)) {
      due(NONE, x.endings(0, 0, bad, 0, 0));
      due(NONE, x.endings(0, 0, bad, 0, 11));
    }
  }

  @Holds(promise = 26, words = "MADE: n (1 .. 5) NOTES of one BEAT each for a VOICE from its end on (the BEAT behind the"
      + " last at which it sounds; it must have sounded),")
  static void from1To5NotesFromItsEndOn(BrokenFugue x) {
    // Its end is behind what is held; another voice that is longer does not matter.
    x.note(0, 1, 0, 20, 5);
    x.note(0, 0, 0, 50, 8);
    read(x, "pair 100*place when cross=0;pair 1 when hold=0;line 0 when 1=1;");
    due(100 + 1, x.made(0, 0, 1, 1, NONE));
    due(100 + 200 + 2, x.made(0, 0, 1, 2, NONE));
    due(100 + 200 + 300 + 3, x.made(0, 0, 1, 3, NONE));
    // From BEAT 8 on it is alone.
    due(603, x.made(0, 0, 1, 4, NONE));
    due(603, x.made(0, 0, 1, 5, NONE));
    for (int n : beyond(1, 5)) {
      due(NONE, x.made(0, 0, 1, n, NONE));
    }
    due(NONE, x.made(0, 0, 2, 1, NONE));
    due(NONE, x.made(0, 1, 1, 1, NONE));
    // Once it has sounded, at its last BEAT but one.
    x.note(0, 2, 30, 9, 1);
    due(0, x.made(0, 0, 2, 1, NONE));
    due(NONE, x.made(0, 0, 2, 2, NONE));
    x.note(0, 2, 30, NONE, 1);
    due(NONE, x.made(0, 0, 2, 1, NONE));
  }

  @Holds(promise = 26, words = "PITCHES at most 7 from that of its last NOTE, 0 .. 60:")
  static void madePitchesAtMost7AwayAndFrom0To60(BrokenFugue x) {
    read(x, "line pitch when 1=1;");
    read(x, "line 60-pitch when 1=1;");
    int[] last = {0, 3, 7, 8, 30, 52, 53, 57, 60};
    int[] lowest = {0, 0, 0, 1, 23, 45, 46, 50, 53};
    int[] highest = {7, 10, 14, 15, 37, 59, 60, 60, 60};
    for (int i = 0; i < last.length; i++) {
      x.note(0, 0, 0, last[i], 1);
      due(lowest[i], x.made(0, 0, 0, 1, 0));
      due(lowest[i], x.made(0, 0, 0, 1, NONE));
      due(lowest[i], x.made(0, 0, 0, 5, 4));
      due(highest[i], x.made(1, 0, 0, 1, 0));
      due(highest[i], x.made(1, 0, 0, 5, 4));
      due(5 * (60 - highest[i]), x.made(1, 0, 0, 5, NONE));
    }
    // The last NOTE alone, not the one ahead of it, and though rests or held BEATS come behind.
    x.note(0, 0, 0, 60, 1);
    x.note(0, 0, 3, 20, 8);
    due(13, x.made(0, 0, 0, 1, 0));
    due(27, x.made(1, 0, 0, 1, 0));
  }

  @Holds(promise = 26, words = "the least PRICE of pairs and lines of this VOICE at these BEATS, against others as they"
      + " are;")
  static void thisVoicesPriceAtTheseBeatsAlone(BrokenFugue x) {
    // What others have among themselves, and what was ahead, does not count.
    sing(x, 0, 0, 0, 10, 12, 14, 16, 18);
    sing(x, 0, 1, 0, 10, 12, 14, 16, 18);
    sing(x, 0, 3, 0, 10, 12);
    read(x, "pair 1 when 1=1;line 10 when 1=1;");
    due(2 + 10, x.made(0, 0, 3, 1, NONE));
    due(3 * (2 + 10), x.made(0, 0, 3, 3, NONE));
    due(3 * (2 + 10) + 2 * 10, x.made(0, 0, 3, 5, NONE));
    // As v and as w of its pairs.
    sing(x, 1, 0, 0, 30, 30);
    sing(x, 1, 1, 0, 20);
    sing(x, 1, 2, 0, 10, 10);
    read(x, "pair 1 when cross=1;pair 1 when gap<10;");
    due(0, x.made(1, 1, 1, 1, NONE));
    due(20, x.made(1, 1, 1, 1, 0));
    // Nothing is written.
    due(NONE, x.at(1, 1, 1));
    due(2, x.about(11));
  }

  @Holds(promise = 26, words = "the least PRICE of pairs and lines of this VOICE at these BEATS, against others as they"
      + " are;")
  static void eachMadeNoteFollowsThoseAhead(BrokenFugue x) {
    sing(x, 0, 0, 0, 30);
    read(x, "line 9 when last=0 and step#7;line 9 when last=7 and step#-14;line 9 when last=-14 and step#3;"
        + "line 9 when last=3 and step#4;line 9 when last=4 and step#-5;");
    int[] due = {37, 23, 26, 30, 25};
    due(0, x.made(0, 0, 0, 5, NONE));
    for (int i = 0; i < due.length; i++) {
      due(due[i], x.made(0, 0, 0, 5, i));
    }
    // The first follows on the two that are there.
    sing(x, 0, 0, 1, 34);
    due(0, x.made(0, 0, 0, 1, NONE));
    due(29, x.made(0, 0, 0, 1, 0));
    sing(x, 0, 0, 1, 37);
    due(9, x.made(0, 0, 0, 1, NONE));
    due(30, x.made(0, 0, 0, 1, 0));
    // By the BAR: from BEAT 12 on place 0.
    x.note(0, 3, 11, 30, 1);
    x.bar(12);
    read(x, "line 1+place when 1=1;");
    due(1 + 2 + 3 + 4 + 5, x.made(1, 0, 3, 5, NONE));
    x.bar(1);
    due(5, x.made(1, 0, 3, 5, NONE));
  }

  @Holds(promise = 26, words = "of like ones the lowest first PITCH, then the second, ..")
  static void ofLikeOnesTheLowestFirst(BrokenFugue x) {
    sing(x, 0, 0, 0, 30);
    read(x, "");
    for (int i = 0; i < 5; i++) {
      due(23, x.made(0, 0, 0, 5, i));
    }
    // Of three steps one has to cost: where it is the first, the first PITCH is the lowest.
    read(x, "line 1 when step<3;");
    due(0, x.made(1, 0, 0, 1, NONE));
    due(33, x.made(1, 0, 0, 1, 0));
    due(1, x.made(1, 0, 0, 3, NONE));
    due(23, x.made(1, 0, 0, 3, 0));
    due(26, x.made(1, 0, 0, 3, 1));
    due(29, x.made(1, 0, 0, 3, 2));
    due(0, x.made(1, 0, 0, 2, NONE));
    due(33, x.made(1, 0, 0, 2, 0));
    due(36, x.made(1, 0, 0, 2, 1));
  }

  @Holds(promise = 26, words = "MADE: i NONE: the PRICE, the i-th PITCH.")
  static void thePriceAndEachPitch(BrokenFugue x) {
    sing(x, 0, 0, 0, 30);
    read(x, "line 5 when step#1;");
    due(0, x.made(0, 0, 0, 5, NONE));
    for (int i = 0; i < 5; i++) {
      due(31 + i, x.made(0, 0, 0, 5, i));
    }
    for (int n = 1; n <= 5; n++) {
      due(30 + n, x.made(0, 0, 0, n, n - 1));
      due(NONE, x.made(0, 0, 0, n, n));
    }
    for (int i : new int[] {LOWEST, -2, 5, 6, HIGHEST}) {
      due(NONE, x.made(0, 0, 0, 5, i));
    }
  }

  @Holds(promise = 26, words = "NONE for others, a VOICE that never sounded, and beyond BEAT 31.")
  static void noneMadeBeyondBeat31(BrokenFugue x) {
    read(x, "line 1 when 1=1;");
    for (int n = 1; n <= 5; n++) {
      BrokenFugue y = new BrokenFugue();
      read(y, "line 1 when 1=1;");
      y.note(0, 0, 31 - n, 30, 1);
      due(n, y.made(0, 0, 0, n, NONE));
      due(23, y.made(0, 0, 0, n, n - 1));
      due(NONE, y.made(0, 0, 0, n + 1, NONE));
      y.note(0, 0, 32 - n, 30, 1);
      due(NONE, y.made(0, 0, 0, n, NONE));
      due(NONE, y.made(0, 0, 0, n, 0));
    }
    x.note(0, 0, 0, 30, 1);
    for (int bad : beyond(0, 0)) {
      due(NONE, x.made(bad, 0, 0, 1, NONE));
    }
    for (int bad : beyond(0, 3)) {
      due(NONE, x.made(0, bad, 0, 1, NONE));
      due(NONE, x.made(0, 0, bad, 1, NONE));
    }
    due(NONE, x.made(0, 0, 1, 1, NONE));
    due(NONE, x.made(0, 1, 0, 1, NONE));
    due(NONE, x.made(0, 0, 3, 1, 0));
  }

  @Holds(promise = 27, words = "ON ITS HEAD about c (0 .. 120): each PITCH x is c - x, VOICE v is 3 - v: whether all lie"
      + " in 0 .. 60; its PRICE then.")
  static void aboutAllCFrom0To120(BrokenFugue x) {
    read(x, "");
    sing(x, 0, 0, 0, 0);
    sing(x, 3, 3, 31, 60);
    due(1, x.head(0, 0, 0, 0));
    due(1, x.head(0, 0, 60, 0));
    due(0, x.head(0, 0, 61, 0));
    due(0, x.head(0, 0, 120, 0));
    due(0, x.head(0, 3, 59, 0));
    due(1, x.head(0, 3, 60, 0));
    due(1, x.head(0, 3, 120, 0));
    due(0, x.head(0, 3, 0, 0));
    // One PITCH of any VOICE and BEAT, held ones too, is enough that it can't.
    x.note(1, 2, 0, 30, 1);
    x.note(1, 1, 24, 29, 8);
    due(1, x.head(0, 1, 30, 0));
    due(0, x.head(0, 1, 29, 0));
    due(1, x.head(0, 1, 89, 0));
    due(0, x.head(0, 1, 90, 0));
    // An empty one always can.
    due(1, x.head(0, 2, 0, 0));
    due(1, x.head(0, 2, 120, 0));
    for (int c : beyond(0, 120)) {
      due(NONE, x.head(0, 2, c, 0));
      due(NONE, x.head(0, 2, c, 1));
    }
  }

  @Holds(promise = 27, words = "ON ITS HEAD about c (0 .. 120): each PITCH x is c - x, VOICE v is 3 - v: whether all lie"
      + " in 0 .. 60; its PRICE then.")
  static void itsPriceOnItsHead(BrokenFugue x) {
    sing(x, 0, 0, 0, 40, 45);
    x.note(0, 1, 0, 30, 2);
    read(x, "pair 1 when cross=1;pair 10 when mine=5;pair 20 when yours=-5;line pitch when step=-5;line 100 when step=5;");
    due(10 + 100, x.price(0, 0));
    // VOICE 3 sounds 20, 15 and VOICE 2 sounds 30, held.
    due(20 + 15, x.head(0, 0, 60, 1));
    due(20, x.head(0, 0, 45, 1));
    due(20 + 45, x.head(0, 0, 90, 1));
    due(NONE, x.head(0, 0, 44, 1));
    due(NONE, x.head(0, 0, 91, 1));
    // From BEAT 0 on.
    read(x, "pair 7 when place=0;");
    due(7, x.head(1, 0, 60, 1));
    // On its head alone: it stays as it is.
    due(40, x.at(0, 0, 0));
    due(10 + 100, x.price(0, 0));
    due(NONE, x.at(0, 3, 0));
  }

  @Holds(promise = 27, words = "ON ITS HEAD: 0 whether it can (1, 0), 1 its PRICE (NONE if it can't).")
  static void whatsOfHeads(BrokenFugue x) {
    read(x, "line 7 when 1=1;");
    sing(x, 0, 0, 0, 10, 10);
    due(1, x.head(0, 0, 10, 0));
    due(7, x.head(0, 0, 10, 1));
    due(0, x.head(0, 0, 9, 0));
    due(NONE, x.head(0, 0, 9, 1));
    due(0, x.head(0, 1, 9, 1));
    for (int what : beyond(0, 1)) {
      due(NONE, x.head(0, 0, 10, what));
      due(NONE, x.head(0, 0, 9, what));
    }
  }

  @Holds(promise = 27, words = "NONE for others.")
  static void noHeadOfOthers(BrokenFugue x) {
    due(NONE, x.head(0, 0, 60, 0));
    read(x, "");
    due(1, x.head(0, 0, 60, 0));
    for (int bad : beyond(0, 0)) {
      due(NONE, x.head(bad, 0, 60, 0));
      due(NONE, x.head(bad, 0, 60, 1));
    }
    for (int bad : beyond(0, 3)) {
      due(NONE, x.head(0, bad, 60, 0));
      due(NONE, x.head(0, bad, 60, 1));
    }
  }

  @Holds(promise = 28, words = "SHAPES (10 at most):")
  static void tenShapesAtMost(BrokenFugue x) {
    for (int shape = 1; shape <= 10; shape++) {
      due(shape, x.shape(shape, 10));
    }
    due(NONE, x.shape(1, 100));
    due(10, x.about(3));
    // The one that was refused does not count.
    x.note(0, 0, 0, 5, 4);
    due(40, x.lasts(0, true));
    due(4, x.lasts(0, false));
  }

  @Holds(promise = 28, words = "of another piece PART of WHOLE (1 .. 9999 each, PART no more):")
  static void partsAndWholesFrom1To9999(BrokenFugue x) {
    due(1, x.shape(1, 1));
    due(2, x.shape(1, 9999));
    due(3, x.shape(9999, 9999));
    due(4, x.shape(9998, 9999));
    due(NONE, x.shape(9999, 9998));
    due(NONE, x.shape(2, 1));
    for (int bad : beyond(1, 9999)) {
      due(NONE, x.shape(bad, 9999));
      due(NONE, x.shape(1, bad));
      due(NONE, x.shape(bad, bad));
    }
    due(4, x.about(3));
  }

  @Holds(promise = 28, words = "A SHAPE: how many there are. NONE for others, or if there are 10.")
  static void aRefusedShapeIsNone(BrokenFugue x) {
    due(NONE, x.shape(0, 0));
    due(NONE, x.shape(1, 0));
    due(NONE, x.shape(0, 1));
    due(NONE, x.shape(-1, -1));
    due(0, x.about(3));
    for (int shape = 1; shape <= 10; shape++) {
      due(shape, x.shape(1, 1));
    }
    due(NONE, x.shape(1, 1));
    due(NONE, x.shape(0, 0));
    x.back();
    due(1, x.shape(1, 1));
  }

  @Holds(promise = 29, words = "LONG: LENGTH * WHOLE / PART, cut: the least and the greatest.")
  static void longestAndCut(BrokenFugue x) {
    x.shape(1, 9999);
    x.note(0, 0, 31, 5, 1);
    x.note(1, 0, 0, 5, 1);
    x.note(2, 0, 6, 5, 1);
    due(32 * 9999, x.lasts(0, true));
    due(9999, x.lasts(1, true));
    due(0, x.lasts(3, true));
    due(0, x.lasts(3, false));
    // 7 * 10 / 4 is 17 and a half; 7 * 9999 / 9998 a little more than 7.
    x.shape(4, 10);
    due(17, x.lasts(2, false));
    x.shape(9998, 9999);
    due(7, x.lasts(2, false));
    due(69993, x.lasts(2, true));
    due(1, x.lasts(1, false));
    // First multiplied, then divided.
    x.shape(2, 3);
    due(1, x.lasts(1, false));
    BrokenFugue y = new BrokenFugue();
    y.note(0, 0, 2, 5, 1);
    y.shape(2, 3);
    due(4, y.lasts(0, false));
    due(4, y.lasts(0, true));
  }

  @Holds(promise = 29, words = "LONG: the least (most false), the greatest. NONE without SHAPES, and for others.")
  static void notLongWithoutShapes(BrokenFugue x) {
    x.note(0, 0, 3, 5, 1);
    due(NONE, x.lasts(0, true));
    due(NONE, x.lasts(0, false));
    due(NONE, x.lasts(3, false));
    x.shape(1, 2);
    x.shape(1, 3);
    due(8, x.lasts(0, false));
    due(12, x.lasts(0, true));
    for (int piece : beyond(0, 3)) {
      due(NONE, x.lasts(piece, true));
      due(NONE, x.lasts(piece, false));
    }
    x.back();
    due(NONE, x.lasts(0, true));
  }
}
