/** Promises 1 to 6: a new object, notes, subjects, the bar, copies. */
final class BoundariesOfPieces extends Boundaries {
  private BoundariesOfPieces() {}

  @Holds(promise = 1, words = "An object is used for at most 512 calls after it has been made; what later calls answer"
      + " is free.")
  static void theLastOf512CallsAnswersStill(BrokenFugue x) {
    sing(x, 0, 0, 0, 30, 31);
    sing(x, 0, 1, 0, 25, 26);
    read(x, "pair 5 when gap=5;");
    // Four notes; end, feed, end and text.
    for (int call = 9; call < 512; call++) {
      due(10, x.price(0, 0));
    }
    due(2, x.breaks(0, 0, NONE, 0));
  }

  @Holds(promise = 1, words = "An object is used for at most 512 calls after it has been made; what later calls answer"
      + " is free.")
  static void the512thNoteIsTaken(BrokenFugue x) {
    for (int two = 0; two < 255; two++) {
      due(two % 25 + 1, x.note(0, 0, two % 25, two % 61, 1));
      due(0, x.note(0, 0, two % 25, NONE, 1));
    }
    due(0, x.about(10));
    due(32, x.note(3, 3, 24, 60, 8));
  }

  @Holds(promise = 1, words = "An object is used for at most 512 calls after it has been made; what later calls answer"
      + " is free.")
  static void the512thTextIsRead(BrokenFugue x) {
    for (int call = 1; call <= 508; call += 4) {
      due(20, x.feed(0x70616972, 0x20312077, 0x68656e20, 0x6761703d, 0x313b2020));
      due(0, x.text());
      due(0, x.fault(0));
      due(0, x.back());
    }
    due(20, x.feed(0x70616972, 0x20312077, 0x68656e20, 0x6761703d, 0x31202020));
    due(NONE, x.text());
    due(1, x.fault(0));
    due(20, x.fault(1));
  }

  @Holds(promise = 1, words = "The constants: `NONE = -1`: None.")
  static void noneIsMinusOne(BrokenFugue x) {
    due(-1, BrokenFugue.NONE);
  }

  @Holds(promise = 1, words = "Nothing sounds;")
  static void nothingSoundsAtFirst(BrokenFugue x) {
    for (int piece = 0; piece < 4; piece++) {
      BrokenFugue fresh = new BrokenFugue();
      due(0, fresh.about(10 + piece));
      for (int voice = 0; voice < 4; voice++) {
        for (int beat = 0; beat < 32; beat++) {
          due(NONE, fresh.at(piece, voice, beat));
        }
      }
    }
    for (int subject = 0; subject < 6; subject++) {
      due(0, x.about(30 + subject));
    }
  }

  @Holds(promise = 1, words = "no TEXTS, PAGES, SHAPES;")
  static void noTextsPagesShapesAtFirst(BrokenFugue x) {
    due(0, x.about(1));
    due(0, x.about(2));
    due(0, x.about(3));
    due(NONE, x.price(0, 0));
    due(NONE, x.orders(0));
    due(NONE, x.lasts(0, true));
    due(-2, x.about(40));
    due(0, x.about(4));
    due(NONE, x.fault(0));
    due(0, x.page(1, 1, 1, 1));
    due(1, x.shape(1, 1));
    due(0, x.text());
  }

  @Holds(promise = 1, words = "THE IMAGE is this.")
  static void theFirstImageIsTheNewObject(BrokenFugue x) {
    x.note(3, 3, 31, 60, 1);
    x.subject(5, 11, 20, 1);
    x.bar(12);
    x.hand(3, 3);
    x.shape(1, 2);
    x.page(99, 9, 9, 9);
    x.text();
    due(0, x.back());
    due(0, x.about(13));
    due(NONE, x.at(3, 3, 31));
    due(0, x.about(35));
    due(4, x.about(0));
    due(NONE, x.about(23));
    due(0, x.about(3));
    due(0, x.about(2));
    due(0, x.about(1));
    due(NONE, x.price(0, 0));
    due(-2, x.about(40));
  }

  @Holds(promise = 2, words = "PIECES 0 .. 3:")
  static void piecesFrom0To3(BrokenFugue x) {
    due(1, x.note(0, 0, 0, 5, 1));
    due(2, x.note(3, 0, 1, 5, 1));
    for (int piece : beyond(0, 3)) {
      due(NONE, x.note(piece, 0, 0, 5, 1));
    }
  }

  @Holds(promise = 2, words = "VOICES 0 .. 3 (0 the highest by its place)")
  static void voicesFrom0To3(BrokenFugue x) {
    due(1, x.note(0, 0, 0, 5, 1));
    due(1, x.note(0, 3, 0, 6, 1));
    for (int voice : beyond(0, 3)) {
      due(NONE, x.note(0, voice, 0, 5, 1));
    }
    read(x, "pair 1 when cross=1;");
    due(1, x.price(0, 0));
    x.note(0, 0, 0, 7, 1);
    due(0, x.price(0, 0));
  }

  @Holds(promise = 2, words = "by BEATS 0 .. 31;")
  static void beatsFrom0To31(BrokenFugue x) {
    due(1, x.note(0, 0, 0, 5, 1));
    due(32, x.note(0, 0, 31, 6, 1));
    due(5, x.at(0, 0, 0));
    due(6, x.at(0, 0, 31));
    for (int beat : beyond(0, 31)) {
      due(NONE, x.note(0, 0, beat, 5, 1));
    }
  }

  @Holds(promise = 3, words = "a BEAT of a VOICE rests (at first) or has a PITCH (0 .. 60), which begins there or is"
      + " held.")
  static void pitchesFrom0To60(BrokenFugue x) {
    due(NONE, x.at(0, 0, 4));
    due(6, x.note(0, 0, 4, 0, 2));
    due(0, x.at(0, 0, 4));
    due(100, x.at(0, 0, 5));
    due(8, x.note(0, 0, 6, 60, 2));
    due(60, x.at(0, 0, 6));
    due(160, x.at(0, 0, 7));
    for (int pitch : new int[] {LOWEST, -100, -2, 61, 100, HIGHEST}) {
      due(NONE, x.note(0, 0, 4, pitch, 1));
    }
    due(0, x.at(0, 0, 4));
  }

  @Holds(promise = 2, words = "A NOTE is told by its first BEAT and how long it is (1 .. 8; it ends with BEAT 31 at the"
      + " latest):")
  static void notesAre1To8Long(BrokenFugue x) {
    due(1, x.note(0, 0, 0, 9, 1));
    due(NONE, x.at(0, 0, 1));
    due(8, x.note(0, 0, 0, 9, 8));
    due(109, x.at(0, 0, 7));
    due(NONE, x.at(0, 0, 8));
    for (int length : beyond(1, 8)) {
      due(NONE, x.note(0, 0, 0, 9, length));
      due(NONE, x.note(0, 0, 0, NONE, length));
    }
    due(109, x.at(0, 0, 7));
  }

  @Holds(promise = 2, words = "A NOTE is told by its first BEAT and how long it is (1 .. 8; it ends with BEAT 31 at the"
      + " latest):")
  static void notesEndWithBeat31AtTheLatest(BrokenFugue x) {
    due(32, x.note(0, 0, 24, 9, 8));
    due(109, x.at(0, 0, 31));
    due(32, x.note(0, 1, 31, 9, 1));
    due(32, x.note(0, 1, 30, 9, 2));
    for (int length = 2; length <= 8; length++) {
      due(NONE, x.note(1, 0, 33 - length, 9, length));
      due(NONE, x.note(0, 0, 33 - length, NONE, length));
      due(NONE, x.at(1, 0, 33 - length));
    }
    due(109, x.at(0, 0, 31));
    due(32, x.note(0, 0, 24, NONE, 8));
    due(NONE, x.at(0, 0, 31));
  }

  @Holds(promise = 2, words = "it begins there and is held behind;")
  static void notesBeginAndAreHeldBehind(BrokenFugue x) {
    x.note(0, 0, 3, 20, 3);
    due(NONE, x.at(0, 0, 2));
    due(20, x.at(0, 0, 3));
    due(120, x.at(0, 0, 4));
    due(120, x.at(0, 0, 5));
    due(NONE, x.at(0, 0, 6));
    // Of the same pitch, and yet another note.
    x.note(0, 0, 6, 20, 1);
    due(20, x.at(0, 0, 6));
  }

  @Holds(promise = 2, words = "what was there is gone;")
  static void whatWasThereIsGone(BrokenFugue x) {
    sing(x, 0, 0, 0, 1, 2, 3, 4, 5);
    x.note(0, 0, 1, 50, 3);
    due(1, x.at(0, 0, 0));
    due(50, x.at(0, 0, 1));
    due(150, x.at(0, 0, 2));
    due(150, x.at(0, 0, 3));
    due(5, x.at(0, 0, 4));
    x.note(0, 0, 0, NONE, 2);
    due(NONE, x.at(0, 0, 0));
    due(NONE, x.at(0, 0, 1));
    // No other voice, and no other piece.
    x.note(0, 1, 0, 7, 1);
    due(50, x.at(0, 0, 2));
    due(NONE, x.at(1, 0, 2));
  }

  @Holds(promise = 2, words = "what was held on its next BEAT, begins there then.")
  static void whatWasHeldBehindItBegins(BrokenFugue x) {
    x.note(0, 0, 0, 20, 8);
    x.note(0, 0, 0, 30, 1);
    due(20, x.at(0, 0, 1));
    due(120, x.at(0, 0, 2));
    x.note(0, 0, 3, 40, 4);
    due(20, x.at(0, 0, 7));
    // A rest too lets go what was held.
    x.note(0, 0, 1, NONE, 1);
    due(20, x.at(0, 0, 2));
    x.note(0, 0, 4, NONE, 2);
    due(40, x.at(0, 0, 3));
    due(40, x.at(0, 0, 6));
  }

  @Holds(promise = 2, words = "what was held on its next BEAT, begins there then.")
  static void whatBeganOrRestedBehindItStays(BrokenFugue x) {
    sing(x, 0, 0, 2, 20);
    x.note(0, 0, 0, 30, 2);
    due(20, x.at(0, 0, 2));
    x.note(0, 0, 1, 31, 1);
    due(20, x.at(0, 0, 2));
    x.note(0, 0, 2, NONE, 1);
    due(NONE, x.at(0, 0, 3));
    // BEAT 31 is the last: no BEAT is next, and none of the next voice or piece.
    x.note(0, 1, 0, 5, 2);
    x.note(0, 0, 31, 6, 1);
    x.note(0, 0, 31, 7, 1);
    due(5, x.at(0, 1, 0));
    due(105, x.at(0, 1, 1));
    x.note(3, 3, 30, 8, 2);
    x.note(3, 3, 30, 9, 1);
    due(8, x.at(3, 3, 31));
  }

  @Holds(promise = 2, words = "LENGTH of a PIECE: 1 more than the last BEAT that sounds (0 without).")
  static void lengthFrom0To32(BrokenFugue x) {
    due(0, x.about(10));
    due(1, x.note(0, 3, 0, 0, 1));
    due(32, x.note(0, 1, 31, 0, 1));
    due(32, x.note(0, 2, 5, 0, 1));
    due(6, x.note(0, 1, 31, NONE, 1));
    due(1, x.note(0, 2, 5, NONE, 1));
    due(0, x.note(0, 3, 0, NONE, 1));
    due(0, x.note(0, 3, 24, NONE, 8));
    // What is held sounds.
    due(8, x.note(0, 0, 0, 0, 8));
    due(7, x.note(0, 0, 7, NONE, 1));
  }

  @Holds(promise = 2, words = "A NOTE (pitch NONE: rests): the PIECE's LENGTH.")
  static void pitchNoneRests(BrokenFugue x) {
    due(0, x.note(0, 0, 0, NONE, 8));
    due(8, x.note(0, 0, 0, 0, 8));
    due(8, x.note(0, 0, 0, NONE, 7));
    due(NONE, x.at(0, 0, 6));
    due(0, x.at(0, 0, 7));
    due(0, x.note(0, 0, 7, NONE, 1));
    due(0, x.note(0, 0, 31, NONE, 1));
  }

  @Holds(promise = 2, words = "NONE for others.")
  static void aRefusedNoteChangesNothing(BrokenFugue x) {
    x.note(0, 0, 24, 9, 8);
    x.note(0, 3, 0, 8, 8);
    for (int bad : new int[] {LOWEST, -9, 61, HIGHEST}) {
      due(NONE, x.note(bad, 0, 24, 5, 1));
      due(NONE, x.note(0, bad, 24, 5, 1));
      due(NONE, x.note(0, 0, bad, 5, 1));
      due(NONE, x.note(0, 0, 24, bad, 1));
      due(NONE, x.note(0, 0, 24, 5, bad));
    }
    // BEAT and length together come round to what is below 0.
    due(NONE, x.note(0, 0, HIGHEST, 5, 8));
    due(NONE, x.note(0, 0, HIGHEST - 7, 5, HIGHEST));
    due(NONE, x.note(0, 0, 24, 5, HIGHEST));
    due(NONE, x.note(0, 0, LOWEST, 5, LOWEST));
    due(NONE, x.note(0, 0, -1, 5, 2));
    due(9, x.at(0, 0, 24));
    due(109, x.at(0, 0, 31));
    due(8, x.at(0, 3, 0));
    due(32, x.about(10));
    due(0, x.about(11));
  }

  @Holds(promise = 3, words = "PITCH of a BEAT; 100 more if it is held.")
  static void heldIs100More(BrokenFugue x) {
    x.note(0, 0, 0, 60, 8);
    x.note(3, 3, 30, 0, 2);
    due(60, x.at(0, 0, 0));
    due(160, x.at(0, 0, 1));
    due(160, x.at(0, 0, 7));
    due(0, x.at(3, 3, 30));
    due(100, x.at(3, 3, 31));
  }

  @Holds(promise = 3, words = "NONE: it rests, and for others.")
  static void noneOfRestsAndOthers(BrokenFugue x) {
    for (int piece = 0; piece < 4; piece++) {
      for (int voice = 0; voice < 4; voice++) {
        x.note(piece, voice, 0, 5, 1);
        x.note(piece, voice, 31, 5, 1);
      }
    }
    due(NONE, x.at(0, 0, 1));
    due(NONE, x.at(3, 3, 30));
    for (int bad : beyond(0, 3)) {
      due(NONE, x.at(bad, 0, 0));
      due(NONE, x.at(bad, 3, 31));
      due(NONE, x.at(0, bad, 0));
      due(NONE, x.at(3, bad, 31));
    }
    for (int bad : beyond(0, 31)) {
      due(NONE, x.at(0, 0, bad));
      due(NONE, x.at(1, 1, bad));
    }
  }

  @Holds(promise = 4, words = "SUBJECTS 0 .. 5 likewise: one VOICE by BEATS 0 .. 11, PITCHES -20 .. 20, NOTES 1 .. 4"
      + " long.")
  static void subjectsWithinTheirBounds(BrokenFugue x) {
    due(1, x.subject(0, 0, -20, 1));
    due(12, x.subject(5, 11, 20, 1));
    due(4, x.subject(1, 0, 0, 4));
    due(12, x.subject(1, 8, 0, 4));
    for (int bad : beyond(0, 5)) {
      due(NONE, x.subject(bad, 0, 0, 1));
    }
    for (int bad : beyond(0, 11)) {
      due(NONE, x.subject(0, bad, 0, 1));
    }
    for (int bad : new int[] {LOWEST, -101, -99, -21, 21, 100, HIGHEST}) {
      due(NONE, x.subject(0, 0, bad, 1));
    }
    for (int bad : beyond(1, 4)) {
      due(NONE, x.subject(0, 0, 0, bad));
    }
    for (int length = 2; length <= 4; length++) {
      due(NONE, x.subject(2, 13 - length, 0, length));
      due(NONE, x.subject(1, 13 - length, -100, length));
    }
    due(0, x.about(32));
    due(12, x.about(31));
  }

  @Holds(promise = 4, words = "SUBJECTS 0 .. 5 likewise: one VOICE by BEATS 0 .. 11, PITCHES -20 .. 20, NOTES 1 .. 4"
      + " long.")
  static void subjectsAreWrittenAsPiecesAre(BrokenFugue x) {
    longSubject(x, 0, 0);
    read(x, "pair 1 when hold=0 and yours=0;pair 10 when yours=5;pair 100 when yours=0-5;line 0 when 1=1;");
    // Of three notes two begin while both have sounded; at its first beat the other begins with the one.
    due(3, x.fit(0, 0, 0, 0, 0, false, 1));
    x.subject(1, 0, 0, 4);
    due(1, x.fit(0, 0, 1, 0, 0, false, 1));
    // What was held on the next BEAT begins there; where a rest has come, what is behind it does not follow on it.
    x.subject(1, 1, 5, 1);
    due(1 + 10 + 100, x.fit(0, 0, 1, 0, 0, false, 1));
    x.subject(1, 1, -100, 1);
    due(1 + 1, x.fit(0, 0, 1, 0, 0, false, 1));
    x.subject(1, 0, -100, 4);
    due(0, x.about(31));
  }

  @Holds(promise = 4, words = "A NOTE of a SUBJECT (pitch -100: rests): how many BEATS it has (1 more than its last that"
      + " sounds).")
  static void beatsOfASubjectFrom0To12(BrokenFugue x) {
    due(0, x.subject(0, 0, -100, 4));
    due(0, x.subject(0, 11, -100, 1));
    due(1, x.subject(0, 0, 0, 1));
    due(12, x.subject(0, 8, 0, 4));
    due(12, x.subject(0, 10, -100, 1));
    due(10, x.subject(0, 11, -100, 1));
    due(1, x.subject(0, 7, -100, 4));
    due(0, x.subject(0, 0, -100, 1));
    due(0, x.about(30));
  }

  @Holds(promise = 4, words = "NONE for others.")
  static void aRefusedSubjectNoteChangesNothing(BrokenFugue x) {
    x.subject(0, 8, 20, 4);
    for (int bad : new int[] {LOWEST, -21, 21, HIGHEST}) {
      due(NONE, x.subject(bad, 8, -100, 1));
      due(NONE, x.subject(0, bad, -100, 1));
      due(NONE, x.subject(0, 11, bad, 1));
      due(NONE, x.subject(0, 11, -100, bad));
    }
    due(NONE, x.subject(0, 11, NONE - 100, 1));
    due(NONE, x.subject(0, HIGHEST, -100, 4));
    due(NONE, x.subject(0, HIGHEST - 3, -100, HIGHEST));
    due(NONE, x.subject(0, -1, -100, 4));
    due(12, x.about(30));
    due(0, x.about(31));
  }

  @Holds(promise = 5, words = "BAR: so many BEATS (1 .. 12; at first 4).")
  static void barsFrom1To12(BrokenFugue x) {
    due(4, x.about(0));
    for (int beats = 1; beats <= 12; beats++) {
      due(true, x.bar(beats));
      due(beats, x.about(0));
    }
    for (int bad : beyond(1, 12)) {
      due(false, x.bar(bad));
      due(12, x.about(0));
    }
  }

  @Holds(promise = 5, words = "BAR: true.")
  static void theSameBarAgain(BrokenFugue x) {
    due(true, x.bar(4));
    due(true, x.bar(1));
    due(true, x.bar(1));
    due(1, x.about(0));
  }

  @Holds(promise = 5, words = "False for others.")
  static void aRefusedBarLeavesTheFormer(BrokenFugue x) {
    due(false, x.bar(0));
    due(4, x.about(0));
    x.bar(7);
    due(false, x.bar(13));
    due(false, x.bar(NONE));
    due(7, x.about(0));
  }

  @Holds(promise = 6, words = "A PIECE's VOICES are as another one's (or its own): true.")
  static void copiesAllVoicesToTheLastBeat(BrokenFugue x) {
    for (int voice = 0; voice < 4; voice++) {
      x.note(3, voice, 30, 10 + voice, 2);
      x.note(3, voice, 0, 20 + voice, 1);
      x.note(0, voice, 5, 30, 4);
    }
    due(true, x.copy(3, 0));
    for (int voice = 0; voice < 4; voice++) {
      due(20 + voice, x.at(0, voice, 0));
      due(10 + voice, x.at(0, voice, 30));
      due(110 + voice, x.at(0, voice, 31));
      due(NONE, x.at(0, voice, 5));
    }
    // It is a copy once, no twin.
    x.note(3, 0, 0, 50, 1);
    x.note(0, 3, 31, 51, 1);
    due(20, x.at(0, 0, 0));
    due(113, x.at(3, 3, 31));
  }

  @Holds(promise = 6, words = "A PIECE's VOICES are as another one's (or its own): true.")
  static void copiesItselfAndAnEmptyOne(BrokenFugue x) {
    x.note(1, 2, 4, 9, 3);
    x.hand(1, 3);
    x.hand(2, 0);
    due(true, x.copy(1, 1));
    due(7, x.about(11));
    due(109, x.at(1, 2, 6));
    due(true, x.copy(2, 2));
    due(0, x.about(12));
    due(true, x.copy(2, 1));
    due(0, x.about(11));
    due(NONE, x.at(1, 2, 4));
    // The HAND is no VOICE.
    due(3, x.about(21));
    due(0, x.about(22));
  }

  @Holds(promise = 6, words = "False for others.")
  static void aRefusedCopyChangesNothing(BrokenFugue x) {
    x.note(0, 0, 0, 9, 1);
    x.note(3, 0, 0, 9, 2);
    for (int bad : beyond(0, 3)) {
      due(false, x.copy(bad, 0));
      due(false, x.copy(bad, 3));
      due(false, x.copy(0, bad));
      due(false, x.copy(3, bad));
      due(false, x.copy(bad, bad));
    }
    due(1, x.about(10));
    due(0, x.about(11));
    due(0, x.about(12));
    due(2, x.about(13));
  }
}
